theorem d_Log_forget_0 : decode prog_7_method_2_code 0 = .ok (.aload_n 0, 1) := by decide +kernel
theorem d_Log_forget_1 : decode prog_7_method_2_code 1 = .ok (.getfield 19, 3) := by decide +kernel
theorem d_Log_forget_4 : decode prog_7_method_2_code 4 = .ok (.iconst 0, 1) := by decide +kernel
theorem d_Log_forget_5 : decode prog_7_method_2_code 5 = .ok (.invokestatic 33, 3) := by decide +kernel
theorem d_Log_forget_8 : decode prog_7_method_2_code 8 = .ok (.aload_n 0, 1) := by decide +kernel
theorem d_Log_forget_9 : decode prog_7_method_2_code 9 = .ok (.getfield 23, 3) := by decide +kernel
theorem d_Log_forget_12 : decode prog_7_method_2_code 12 = .ok (.iconst 0, 1) := by decide +kernel
theorem d_Log_forget_13 : decode prog_7_method_2_code 13 = .ok (.invokestatic 33, 3) := by decide +kernel
theorem d_Log_forget_16 : decode prog_7_method_2_code 16 = .ok (.aload_n 0, 1) := by decide +kernel
theorem d_Log_forget_17 : decode prog_7_method_2_code 17 = .ok (.getfield 26, 3) := by decide +kernel
theorem d_Log_forget_20 : decode prog_7_method_2_code 20 = .ok (.iconst 0, 1) := by decide +kernel
theorem d_Log_forget_21 : decode prog_7_method_2_code 21 = .ok (.invokestatic 33, 3) := by decide +kernel
theorem d_Log_forget_24 : decode prog_7_method_2_code 24 = .ok (.iconst 0, 1) := by decide +kernel
theorem d_Log_forget_25 : decode prog_7_method_2_code 25 = .ok (.istore_n 1, 1) := by decide +kernel
theorem d_Log_forget_26 : decode prog_7_method_2_code 26 = .ok (.iload_n 1, 1) := by decide +kernel
theorem d_Log_forget_27 : decode prog_7_method_2_code 27 = .ok (.sipush 128, 3) := by decide +kernel
theorem d_Log_forget_30 : decode prog_7_method_2_code 30 = .ok (.if_icmp .ge 16, 3) := by decide +kernel
theorem d_Log_forget_33 : decode prog_7_method_2_code 33 = .ok (.aload_n 0, 1) := by decide +kernel
theorem d_Log_forget_34 : decode prog_7_method_2_code 34 = .ok (.getfield 29, 3) := by decide +kernel
theorem d_Log_forget_37 : decode prog_7_method_2_code 37 = .ok (.iload_n 1, 1) := by decide +kernel
theorem d_Log_forget_38 : decode prog_7_method_2_code 38 = .ok (.iconst 0, 1) := by decide +kernel
theorem d_Log_forget_39 : decode prog_7_method_2_code 39 = .ok (.bastore, 1) := by decide +kernel
theorem d_Log_forget_40 : decode prog_7_method_2_code 40 = .ok (.iinc 1 1, 3) := by decide +kernel
theorem d_Log_forget_43 : decode prog_7_method_2_code 43 = .ok (.goto (-17), 3) := by decide +kernel
theorem d_Log_forget_46 : decode prog_7_method_2_code 46 = .ok (.aload_n 0, 1) := by decide +kernel
theorem d_Log_forget_47 : decode prog_7_method_2_code 47 = .ok (.iconst 0, 1) := by decide +kernel
theorem d_Log_forget_48 : decode prog_7_method_2_code 48 = .ok (.putfield 39, 3) := by decide +kernel
theorem d_Log_forget_51 : decode prog_7_method_2_code 51 = .ok (.aload_n 0, 1) := by decide +kernel
theorem d_Log_forget_52 : decode prog_7_method_2_code 52 = .ok (.iconst 0, 1) := by decide +kernel
theorem d_Log_forget_53 : decode prog_7_method_2_code 53 = .ok (.putfield 43, 3) := by decide +kernel
theorem d_Log_forget_56 : decode prog_7_method_2_code 56 = .ok (.aload_n 0, 1) := by decide +kernel
theorem d_Log_forget_57 : decode prog_7_method_2_code 57 = .ok (.iconst 0, 1) := by decide +kernel
theorem d_Log_forget_58 : decode prog_7_method_2_code 58 = .ok (.putfield 46, 3) := by decide +kernel
theorem d_Log_forget_61 : decode prog_7_method_2_code 61 = .ok (.aload_n 0, 1) := by decide +kernel
theorem d_Log_forget_62 : decode prog_7_method_2_code 62 = .ok (.iconst 0, 1) := by decide +kernel
theorem d_Log_forget_63 : decode prog_7_method_2_code 63 = .ok (.putfield 49, 3) := by decide +kernel
theorem d_Log_forget_66 : decode prog_7_method_2_code 66 = .ok (.aload_n 0, 1) := by decide +kernel
theorem d_Log_forget_67 : decode prog_7_method_2_code 67 = .ok (.iconst 0, 1) := by decide +kernel
theorem d_Log_forget_68 : decode prog_7_method_2_code 68 = .ok (.putfield 52, 3) := by decide +kernel
theorem d_Log_forget_71 : decode prog_7_method_2_code 71 = .ok (.aload_n 0, 1) := by decide +kernel
theorem d_Log_forget_72 : decode prog_7_method_2_code 72 = .ok (.iconst 0, 1) := by decide +kernel
theorem d_Log_forget_73 : decode prog_7_method_2_code 73 = .ok (.putfield 55, 3) := by decide +kernel
theorem d_Log_forget_76 : decode prog_7_method_2_code 76 = .ok (.return_, 1) := by decide +kernel
set_option maxHeartbeats 4000000 in
set_option maxRecDepth 100000 in
theorem v_Log_forget_26 {p : Program} {l : Launch} {e : Env} {s : State} {m : MethodId} {args : Array Value} {below : List Frame} {meth : Method} {c : Code} {D : va_G} {ad : Nat → Nat} {ca : Nat → ClassId} {A : Nat → Prop} {FU : Nat} {q : St} (X : FX p s m meth c prog_7_method_2_code 2 none "FlashFiles$Log" D (tyF ca) A) : ∀ (n : Nat), ∀ (y1 : Int32) (g : St) (H : Heap) (locs : List Loc) (ls : Array Slot), va_P D cls (wF ad ca g) H → va_D A (wF ad ca g) → va_S A s.heap H locs → lv_has ls 2 [(0, .ref (ad 5)), (1, .int y1)] → Log_forget_b26 FU n y1 g = some q → W p l e (rmN 2) s m args below meth c H locs 0 0 (MQ below (fxQv D (tyF ca) A (wF ad ca q)) args s 0 0 A) (F0 m 26 ls []) := by
  have hx := X.1
  have hb := X.2.1
  intro n
  induction n with
  | zero =>
    intro y1 g H locs ls hP hD hS hl h
    cases h
  | succ n ih =>
    intro y1 g H locs ls hP hD hS hl h
    have h := h
    rw [Log_forget_b26.eq_2] at h
    refine lv_iload_n hx hb d_Log_forget_26 rfl (lv_at hl 1 rfl) ?_
    refine lv_sipush (v := 128) hx hb d_Log_forget_27 (by decide) ?_
    refine lv_icmp_ge (tgt := 46) hx hb d_Log_forget_30 (by decide) (fun hc => ?_) (fun hc => ?_)
    · have h := if_t hc h
      refine lv_aload_n hx hb d_Log_forget_46 rfl (lv_at hl 0 rfl) ?_
      refine lv_iconst (v := 0) hx hb d_Log_forget_47 (by decide) ?_
      obtain ⟨g1, e1, h⟩ := nx_some h
      refine uF_log_segments X hP hD hS e1 d_Log_forget_48 (fun H locs hP hD hS => ?_)
      refine lv_aload_n hx hb d_Log_forget_51 rfl (lv_at hl 0 rfl) ?_
      refine lv_iconst (v := 0) hx hb d_Log_forget_52 (by decide) ?_
      obtain ⟨g2, e1, h⟩ := nx_some h
      refine uF_log_freeSegments X hP hD hS e1 d_Log_forget_53 (fun H locs hP hD hS => ?_)
      refine lv_aload_n hx hb d_Log_forget_56 rfl (lv_at hl 0 rfl) ?_
      refine lv_iconst (v := 0) hx hb d_Log_forget_57 (by decide) ?_
      obtain ⟨g3, e1, h⟩ := nx_some h
      refine uF_log_nodeEnd X hP hD hS e1 d_Log_forget_58 (fun H locs hP hD hS => ?_)
      refine lv_aload_n hx hb d_Log_forget_61 rfl (lv_at hl 0 rfl) ?_
      refine lv_iconst (v := 0) hx hb d_Log_forget_62 (by decide) ?_
      obtain ⟨g4, e1, h⟩ := nx_some h
      refine uF_log_dataEnd X hP hD hS e1 d_Log_forget_63 (fun H locs hP hD hS => ?_)
      refine lv_aload_n hx hb d_Log_forget_66 rfl (lv_at hl 0 rfl) ?_
      refine lv_iconst (v := 0) hx hb d_Log_forget_67 (by decide) ?_
      obtain ⟨g5, e1, h⟩ := nx_some h
      refine uF_log_lastOpened X hP hD hS e1 d_Log_forget_68 (fun H locs hP hD hS => ?_)
      refine lv_aload_n hx hb d_Log_forget_71 rfl (lv_at hl 0 rfl) ?_
      refine lv_iconst (v := 0) hx hb d_Log_forget_72 (by decide) ?_
      obtain ⟨g6, e1, h⟩ := nx_some h
      refine uF_log_serial X hP hD hS e1 d_Log_forget_73 (fun H locs hP hD hS => ?_)
      cases h
      exact fx_vret X hP hD hS d_Log_forget_76
    · have h := if_f hc h
      refine lv_aload_n hx hb d_Log_forget_33 rfl (lv_at hl 0 rfl) ?_
      refine gF_log_free X hP d_Log_forget_34 ?_
      refine lv_iload_n hx hb d_Log_forget_37 rfl (lv_at hl 1 rfl) ?_
      refine lv_iconst (v := 0) hx hb d_Log_forget_38 (by decide) ?_
      obtain ⟨g7, e1, h⟩ := bd_some h
      refine sF_12 X hP hD hS e1 d_Log_forget_39 (fun H locs hP hD hS => ?_)
      refine lv_iinc (k := 1) (v := (y1 + (1 : Int32))) hx hb d_Log_forget_40 hl rfl (oi_1 _) (by decide) rfl (fun ls hl => ?_)
      have hl : lv_has ls 2 [(1, .int (y1 + (1 : Int32))), (0, .ref (ad 5))] := hl
      refine lv_goto (tgt := 26) hx hb d_Log_forget_43 (by decide) ?_
      exact ih _ _ _ _ _ hP hD hS (lv_sub hl [1, 0] rfl) h
set_option maxHeartbeats 4000000 in
set_option maxRecDepth 100000 in
theorem m_Log_forget {l : Launch} {D : va_G} {ad : Nat → Nat} {ca : Nat → ClassId} {FU : Nat} {g : St} {q : St} (h : Log_forget FU  g = some q) : CV l ⟨"FlashFiles$Log", "forget", "()V"⟩ prog_7_method_2_code 2 2 D (tyF ca) (wF ad ca g) [.ref (ad 5)] (wF ad ca q) := by
  intro sz
  refine Met.fx (Qc := fun A => fxQv D (tyF ca) A (wF ad ca q)) (by decide) (Nat.le_of_ble_eq_true rfl) ?_
  intro p e s m below meth c A ls X hP hD hl
  have hl : lv_has ls 2 [(0, .ref (ad 5))] := hl
  have hS : va_S A s.heap s.heap [] := va_S.rf
  have hx := X.1
  have hb := X.2.1
  unfold Log_forget at h
  refine lv_aload_n hx hb d_Log_forget_0 rfl (lv_at hl 0 rfl) ?_
  refine gF_log_use X hP d_Log_forget_1 ?_
  refine lv_iconst (v := 0) hx hb d_Log_forget_4 (by decide) ?_
  obtain ⟨p8, e1, h⟩ := bd_some h
  refine fx_v X (fx_runS X (m_Arr_fill_0_9 e1 _) (As := [.ref (ad 20), .int (0 : Int32)]) hP hD ks_Log_33 ⟨Nat.le_of_ble_eq_true rfl, Nat.le_of_ble_eq_true rfl⟩ rfl hl.1 rfl (Nat.le_of_ble_eq_true rfl) d_Log_forget_5) hD hS (fun H locs hP hD hS => ?_)
  refine lv_aload_n hx hb d_Log_forget_8 rfl (lv_at hl 0 rfl) ?_
  refine gF_log_nodes X hP d_Log_forget_9 ?_
  refine lv_iconst (v := 0) hx hb d_Log_forget_12 (by decide) ?_
  obtain ⟨p9, e1, h⟩ := bd_some h
  refine fx_v X (fx_runS X (m_Arr_fill_0_10 e1 _) (As := [.ref (ad 21), .int (0 : Int32)]) hP hD ks_Log_33 ⟨Nat.le_of_ble_eq_true rfl, Nat.le_of_ble_eq_true rfl⟩ rfl hl.1 rfl (Nat.le_of_ble_eq_true rfl) d_Log_forget_13) hD hS (fun H locs hP hD hS => ?_)
  refine lv_aload_n hx hb d_Log_forget_16 rfl (lv_at hl 0 rfl) ?_
  refine gF_log_data X hP d_Log_forget_17 ?_
  refine lv_iconst (v := 0) hx hb d_Log_forget_20 (by decide) ?_
  obtain ⟨p10, e1, h⟩ := bd_some h
  refine fx_v X (fx_runS X (m_Arr_fill_0_11 e1 _) (As := [.ref (ad 22), .int (0 : Int32)]) hP hD ks_Log_33 ⟨Nat.le_of_ble_eq_true rfl, Nat.le_of_ble_eq_true rfl⟩ rfl hl.1 rfl (Nat.le_of_ble_eq_true rfl) d_Log_forget_21) hD hS (fun H locs hP hD hS => ?_)
  refine lv_iconst (v := 0) hx hb d_Log_forget_24 (by decide) ?_
  refine lv_istore_n hx hb d_Log_forget_25 rfl hl (by decide) rfl (fun ls hl => ?_)
  have hl : lv_has ls 2 [(1, .int (0 : Int32)), (0, .ref (ad 5))] := hl
  exact v_Log_forget_26 X  _ _ _ _ _ _ hP hD hS (lv_sub hl [1, 0] rfl) h
theorem d_Log_segments_0 : decode prog_7_method_3_code 0 = .ok (.aload_n 0, 1) := by decide +kernel
theorem d_Log_segments_1 : decode prog_7_method_3_code 1 = .ok (.getfield 39, 3) := by decide +kernel
theorem d_Log_segments_4 : decode prog_7_method_3_code 4 = .ok (.ireturn, 1) := by decide +kernel
set_option maxHeartbeats 4000000 in
set_option maxRecDepth 100000 in
theorem m_Log_segments {l : Launch} {D : va_G} {ad : Nat → Nat} {ca : Nat → ClassId} {FU : Nat} {g : St} {q : Int32} (h : Log_segments FU  g = some q) : CI l ⟨"FlashFiles$Log", "segments", "()I"⟩ prog_7_method_3_code 1 1 (some .int) D (tyF ca) (wF ad ca g) [.ref (ad 5)] q (wF ad ca g) := by
  intro sz
  refine Met.fx (Qc := fun A => fxQi D (tyF ca) A (wF ad ca g) q) (by decide) (Nat.le_of_ble_eq_true rfl) ?_
  intro p e s m below meth c A ls X hP hD hl
  have hl : lv_has ls 1 [(0, .ref (ad 5))] := hl
  have hS : va_S A s.heap s.heap [] := va_S.rf
  have hx := X.1
  have hb := X.2.1
  unfold Log_segments at h
  refine lv_aload_n hx hb d_Log_segments_0 rfl (lv_at hl 0 rfl) ?_
  refine gF_log_segments X hP d_Log_segments_1 ?_
  cases h
  exact fx_iret X hP hD hS d_Log_segments_4
theorem d_Log_freeSegments_0 : decode prog_7_method_4_code 0 = .ok (.aload_n 0, 1) := by decide +kernel
theorem d_Log_freeSegments_1 : decode prog_7_method_4_code 1 = .ok (.getfield 43, 3) := by decide +kernel
theorem d_Log_freeSegments_4 : decode prog_7_method_4_code 4 = .ok (.ireturn, 1) := by decide +kernel
set_option maxHeartbeats 4000000 in
set_option maxRecDepth 100000 in
theorem m_Log_freeSegments {l : Launch} {D : va_G} {ad : Nat → Nat} {ca : Nat → ClassId} {FU : Nat} {g : St} {q : Int32} (h : Log_freeSegments FU  g = some q) : CI l ⟨"FlashFiles$Log", "freeSegments", "()I"⟩ prog_7_method_4_code 1 1 (some .int) D (tyF ca) (wF ad ca g) [.ref (ad 5)] q (wF ad ca g) := by
  intro sz
  refine Met.fx (Qc := fun A => fxQi D (tyF ca) A (wF ad ca g) q) (by decide) (Nat.le_of_ble_eq_true rfl) ?_
  intro p e s m below meth c A ls X hP hD hl
  have hl : lv_has ls 1 [(0, .ref (ad 5))] := hl
  have hS : va_S A s.heap s.heap [] := va_S.rf
  have hx := X.1
  have hb := X.2.1
  unfold Log_freeSegments at h
  refine lv_aload_n hx hb d_Log_freeSegments_0 rfl (lv_at hl 0 rfl) ?_
  refine gF_log_freeSegments X hP d_Log_freeSegments_1 ?_
  cases h
  exact fx_iret X hP hD hS d_Log_freeSegments_4
theorem d_Log_nodeEnd_0 : decode prog_7_method_5_code 0 = .ok (.aload_n 0, 1) := by decide +kernel
theorem d_Log_nodeEnd_1 : decode prog_7_method_5_code 1 = .ok (.getfield 46, 3) := by decide +kernel
theorem d_Log_nodeEnd_4 : decode prog_7_method_5_code 4 = .ok (.ireturn, 1) := by decide +kernel
set_option maxHeartbeats 4000000 in
set_option maxRecDepth 100000 in
theorem m_Log_nodeEnd {l : Launch} {D : va_G} {ad : Nat → Nat} {ca : Nat → ClassId} {FU : Nat} {g : St} {q : Int32} (h : Log_nodeEnd FU  g = some q) : CI l ⟨"FlashFiles$Log", "nodeEnd", "()I"⟩ prog_7_method_5_code 1 1 (some .int) D (tyF ca) (wF ad ca g) [.ref (ad 5)] q (wF ad ca g) := by
  intro sz
  refine Met.fx (Qc := fun A => fxQi D (tyF ca) A (wF ad ca g) q) (by decide) (Nat.le_of_ble_eq_true rfl) ?_
  intro p e s m below meth c A ls X hP hD hl
  have hl : lv_has ls 1 [(0, .ref (ad 5))] := hl
  have hS : va_S A s.heap s.heap [] := va_S.rf
  have hx := X.1
  have hb := X.2.1
  unfold Log_nodeEnd at h
  refine lv_aload_n hx hb d_Log_nodeEnd_0 rfl (lv_at hl 0 rfl) ?_
  refine gF_log_nodeEnd X hP d_Log_nodeEnd_1 ?_
  cases h
  exact fx_iret X hP hD hS d_Log_nodeEnd_4
theorem d_Log_serial_0 : decode prog_7_method_6_code 0 = .ok (.aload_n 0, 1) := by decide +kernel
theorem d_Log_serial_1 : decode prog_7_method_6_code 1 = .ok (.getfield 55, 3) := by decide +kernel
theorem d_Log_serial_4 : decode prog_7_method_6_code 4 = .ok (.ireturn, 1) := by decide +kernel
set_option maxHeartbeats 4000000 in
set_option maxRecDepth 100000 in
theorem m_Log_serial {l : Launch} {D : va_G} {ad : Nat → Nat} {ca : Nat → ClassId} {FU : Nat} {g : St} {q : Int32} (h : Log_serial FU  g = some q) : CI l ⟨"FlashFiles$Log", "serial", "()I"⟩ prog_7_method_6_code 1 1 (some .int) D (tyF ca) (wF ad ca g) [.ref (ad 5)] q (wF ad ca g) := by
  intro sz
  refine Met.fx (Qc := fun A => fxQi D (tyF ca) A (wF ad ca g) q) (by decide) (Nat.le_of_ble_eq_true rfl) ?_
  intro p e s m below meth c A ls X hP hD hl
  have hl : lv_has ls 1 [(0, .ref (ad 5))] := hl
  have hS : va_S A s.heap s.heap [] := va_S.rf
  have hx := X.1
  have hb := X.2.1
  unfold Log_serial at h
  refine lv_aload_n hx hb d_Log_serial_0 rfl (lv_at hl 0 rfl) ?_
  refine gF_log_serial X hP d_Log_serial_1 ?_
  cases h
  exact fx_iret X hP hD hS d_Log_serial_4
theorem d_Log_setSegments_0 : decode prog_7_method_7_code 0 = .ok (.aload_n 0, 1) := by decide +kernel
theorem d_Log_setSegments_1 : decode prog_7_method_7_code 1 = .ok (.iload_n 1, 1) := by decide +kernel
theorem d_Log_setSegments_2 : decode prog_7_method_7_code 2 = .ok (.sipush 128, 3) := by decide +kernel
theorem d_Log_setSegments_5 : decode prog_7_method_7_code 5 = .ok (.invokestatic 58, 3) := by decide +kernel
theorem d_Log_setSegments_8 : decode prog_7_method_7_code 8 = .ok (.putfield 39, 3) := by decide +kernel
theorem d_Log_setSegments_11 : decode prog_7_method_7_code 11 = .ok (.return_, 1) := by decide +kernel
set_option maxHeartbeats 4000000 in
set_option maxRecDepth 100000 in
theorem m_Log_setSegments {l : Launch} {D : va_G} {ad : Nat → Nat} {ca : Nat → ClassId} {FU : Nat} {x1 : Int32} {g : St} {q : St} (h : Log_setSegments FU x1 g = some q) : CV l ⟨"FlashFiles$Log", "setSegments", "(I)V"⟩ prog_7_method_7_code 2 1 D (tyF ca) (wF ad ca g) [.ref (ad 5), .int x1] (wF ad ca q) := by
  intro sz
  refine Met.fx (Qc := fun A => fxQv D (tyF ca) A (wF ad ca q)) (by decide) (Nat.le_of_ble_eq_true rfl) ?_
  intro p e s m below meth c A ls X hP hD hl
  have hl : lv_has ls 2 [(0, .ref (ad 5)), (1, .int x1)] := hl
  have hS : va_S A s.heap s.heap [] := va_S.rf
  have hx := X.1
  have hb := X.2.1
  unfold Log_setSegments at h
  refine lv_aload_n hx hb d_Log_setSegments_0 rfl (lv_at hl 0 rfl) ?_
  refine lv_iload_n hx hb d_Log_setSegments_1 rfl (lv_at hl 1 rfl) ?_
  refine lv_sipush (v := 128) hx hb d_Log_setSegments_2 (by decide) ?_
  refine va_mmin hx hb (X.2.2.1.trans hl.1.symm) X.2.2.2.2.2.1 (X.2.2.2.2.2.2.1.use q3_238) (X.2.2.2.2.2.2.1.use q2_193) (X.2.2.2.2.2.2.1.use q1_16) (X.2.2.2.2.2.2.1.use math_min) (Nat.le_of_ble_eq_true rfl) (Nat.le_of_ble_eq_true rfl) (Nat.zero_le _) (Nat.zero_le _) d_Log_setSegments_5 ?_
  obtain ⟨g1, e1, h⟩ := nx_some h
  refine uF_log_segments X hP hD hS e1 d_Log_setSegments_8 (fun H locs hP hD hS => ?_)
  cases h
  exact fx_vret X hP hD hS d_Log_setSegments_11
theorem d_Log_setSerial_0 : decode prog_7_method_8_code 0 = .ok (.aload_n 0, 1) := by decide +kernel
theorem d_Log_setSerial_1 : decode prog_7_method_8_code 1 = .ok (.iload_n 1, 1) := by decide +kernel
theorem d_Log_setSerial_2 : decode prog_7_method_8_code 2 = .ok (.putfield 55, 3) := by decide +kernel
theorem d_Log_setSerial_5 : decode prog_7_method_8_code 5 = .ok (.return_, 1) := by decide +kernel
set_option maxHeartbeats 4000000 in
set_option maxRecDepth 100000 in
theorem m_Log_setSerial {l : Launch} {D : va_G} {ad : Nat → Nat} {ca : Nat → ClassId} {FU : Nat} {x1 : Int32} {g : St} {q : St} (h : Log_setSerial FU x1 g = some q) : CV l ⟨"FlashFiles$Log", "setSerial", "(I)V"⟩ prog_7_method_8_code 2 1 D (tyF ca) (wF ad ca g) [.ref (ad 5), .int x1] (wF ad ca q) := by
  intro sz
  refine Met.fx (Qc := fun A => fxQv D (tyF ca) A (wF ad ca q)) (by decide) (Nat.le_of_ble_eq_true rfl) ?_
  intro p e s m below meth c A ls X hP hD hl
  have hl : lv_has ls 2 [(0, .ref (ad 5)), (1, .int x1)] := hl
  have hS : va_S A s.heap s.heap [] := va_S.rf
  have hx := X.1
  have hb := X.2.1
  unfold Log_setSerial at h
  refine lv_aload_n hx hb d_Log_setSerial_0 rfl (lv_at hl 0 rfl) ?_
  refine lv_iload_n hx hb d_Log_setSerial_1 rfl (lv_at hl 1 rfl) ?_
  obtain ⟨g1, e1, h⟩ := nx_some h
  refine uF_log_serial X hP hD hS e1 d_Log_setSerial_2 (fun H locs hP hD hS => ?_)
  cases h
  exact fx_vret X hP hD hS d_Log_setSerial_5
theorem d_Log_useOf_0 : decode prog_7_method_9_code 0 = .ok (.iload_n 1, 1) := by decide +kernel
theorem d_Log_useOf_1 : decode prog_7_method_9_code 1 = .ok (.ifCond .lt 10, 3) := by decide +kernel
theorem d_Log_useOf_4 : decode prog_7_method_9_code 4 = .ok (.iload_n 1, 1) := by decide +kernel
theorem d_Log_useOf_5 : decode prog_7_method_9_code 5 = .ok (.sipush 2117, 3) := by decide +kernel
theorem d_Log_useOf_8 : decode prog_7_method_9_code 8 = .ok (.if_icmp .lt 7, 3) := by decide +kernel
theorem d_Log_useOf_11 : decode prog_7_method_9_code 11 = .ok (.iconst 0, 1) := by decide +kernel
theorem d_Log_useOf_12 : decode prog_7_method_9_code 12 = .ok (.goto 9, 3) := by decide +kernel
theorem d_Log_useOf_15 : decode prog_7_method_9_code 15 = .ok (.aload_n 0, 1) := by decide +kernel
theorem d_Log_useOf_16 : decode prog_7_method_9_code 16 = .ok (.getfield 19, 3) := by decide +kernel
theorem d_Log_useOf_19 : decode prog_7_method_9_code 19 = .ok (.iload_n 1, 1) := by decide +kernel
theorem d_Log_useOf_20 : decode prog_7_method_9_code 20 = .ok (.iaload, 1) := by decide +kernel
theorem d_Log_useOf_21 : decode prog_7_method_9_code 21 = .ok (.ireturn, 1) := by decide +kernel
set_option maxHeartbeats 4000000 in
set_option maxRecDepth 100000 in
theorem m_Log_useOf {l : Launch} {D : va_G} {ad : Nat → Nat} {ca : Nat → ClassId} {FU : Nat} {x1 : Int32} {g : St} {q : Int32} (h : Log_useOf FU x1 g = some q) : CI l ⟨"FlashFiles$Log", "useOf", "(I)I"⟩ prog_7_method_9_code 2 1 (some .int) D (tyF ca) (wF ad ca g) [.ref (ad 5), .int x1] q (wF ad ca g) := by
  intro sz
  refine Met.fx (Qc := fun A => fxQi D (tyF ca) A (wF ad ca g) q) (by decide) (Nat.le_of_ble_eq_true rfl) ?_
  intro p e s m below meth c A ls X hP hD hl
  have hl : lv_has ls 2 [(0, .ref (ad 5)), (1, .int x1)] := hl
  have hS : va_S A s.heap s.heap [] := va_S.rf
  have hx := X.1
  have hb := X.2.1
  unfold Log_useOf at h
  refine lv_iload_n hx hb d_Log_useOf_0 rfl (lv_at hl 1 rfl) ?_
  refine lv_if_lt (tgt := 11) hx hb d_Log_useOf_1 (by decide) (fun hc => ?_) (fun hc => ?_)
  · have h := if_t hc h
    refine lv_iconst (v := 0) hx hb d_Log_useOf_11 (by decide) ?_
    refine lv_goto (tgt := 21) hx hb d_Log_useOf_12 (by decide) ?_
    cases h
    exact fx_iret X hP hD hS d_Log_useOf_21
  · have h := if_f hc h
    refine lv_iload_n hx hb d_Log_useOf_4 rfl (lv_at hl 1 rfl) ?_
    refine lv_sipush (v := 2117) hx hb d_Log_useOf_5 (by decide) ?_
    refine lv_icmp_lt (tgt := 15) hx hb d_Log_useOf_8 (by decide) (fun hc => ?_) (fun hc => ?_)
    · have h := if_t hc h
      refine lv_aload_n hx hb d_Log_useOf_15 rfl (lv_at hl 0 rfl) ?_
      refine gF_log_use X hP d_Log_useOf_16 ?_
      refine lv_iload_n hx hb d_Log_useOf_19 rfl (lv_at hl 1 rfl) ?_
      obtain ⟨v1, e1, h⟩ := bd_some h
      refine rF_9 X hP e1 d_Log_useOf_20 ?_
      cases h
      exact fx_iret X hP hD hS d_Log_useOf_21
    · have h := if_f hc h
      refine lv_iconst (v := 0) hx hb d_Log_useOf_11 (by decide) ?_
      refine lv_goto (tgt := 21) hx hb d_Log_useOf_12 (by decide) ?_
      cases h
      exact fx_iret X hP hD hS d_Log_useOf_21
theorem d_Log_nodesIn_0 : decode prog_7_method_10_code 0 = .ok (.iload_n 1, 1) := by decide +kernel
theorem d_Log_nodesIn_1 : decode prog_7_method_10_code 1 = .ok (.ifCond .lt 10, 3) := by decide +kernel
theorem d_Log_nodesIn_4 : decode prog_7_method_10_code 4 = .ok (.iload_n 1, 1) := by decide +kernel
theorem d_Log_nodesIn_5 : decode prog_7_method_10_code 5 = .ok (.sipush 128, 3) := by decide +kernel
theorem d_Log_nodesIn_8 : decode prog_7_method_10_code 8 = .ok (.if_icmp .lt 7, 3) := by decide +kernel
theorem d_Log_nodesIn_11 : decode prog_7_method_10_code 11 = .ok (.iconst 0, 1) := by decide +kernel
theorem d_Log_nodesIn_12 : decode prog_7_method_10_code 12 = .ok (.goto 9, 3) := by decide +kernel
theorem d_Log_nodesIn_15 : decode prog_7_method_10_code 15 = .ok (.aload_n 0, 1) := by decide +kernel
theorem d_Log_nodesIn_16 : decode prog_7_method_10_code 16 = .ok (.getfield 23, 3) := by decide +kernel
theorem d_Log_nodesIn_19 : decode prog_7_method_10_code 19 = .ok (.iload_n 1, 1) := by decide +kernel
theorem d_Log_nodesIn_20 : decode prog_7_method_10_code 20 = .ok (.iaload, 1) := by decide +kernel
theorem d_Log_nodesIn_21 : decode prog_7_method_10_code 21 = .ok (.ireturn, 1) := by decide +kernel
set_option maxHeartbeats 4000000 in
set_option maxRecDepth 100000 in
theorem m_Log_nodesIn {l : Launch} {D : va_G} {ad : Nat → Nat} {ca : Nat → ClassId} {FU : Nat} {x1 : Int32} {g : St} {q : Int32} (h : Log_nodesIn FU x1 g = some q) : CI l ⟨"FlashFiles$Log", "nodesIn", "(I)I"⟩ prog_7_method_10_code 2 1 (some .int) D (tyF ca) (wF ad ca g) [.ref (ad 5), .int x1] q (wF ad ca g) := by
  intro sz
  refine Met.fx (Qc := fun A => fxQi D (tyF ca) A (wF ad ca g) q) (by decide) (Nat.le_of_ble_eq_true rfl) ?_
  intro p e s m below meth c A ls X hP hD hl
  have hl : lv_has ls 2 [(0, .ref (ad 5)), (1, .int x1)] := hl
  have hS : va_S A s.heap s.heap [] := va_S.rf
  have hx := X.1
  have hb := X.2.1
  unfold Log_nodesIn at h
  refine lv_iload_n hx hb d_Log_nodesIn_0 rfl (lv_at hl 1 rfl) ?_
  refine lv_if_lt (tgt := 11) hx hb d_Log_nodesIn_1 (by decide) (fun hc => ?_) (fun hc => ?_)
  · have h := if_t hc h
    refine lv_iconst (v := 0) hx hb d_Log_nodesIn_11 (by decide) ?_
    refine lv_goto (tgt := 21) hx hb d_Log_nodesIn_12 (by decide) ?_
    cases h
    exact fx_iret X hP hD hS d_Log_nodesIn_21
  · have h := if_f hc h
    refine lv_iload_n hx hb d_Log_nodesIn_4 rfl (lv_at hl 1 rfl) ?_
    refine lv_sipush (v := 128) hx hb d_Log_nodesIn_5 (by decide) ?_
    refine lv_icmp_lt (tgt := 15) hx hb d_Log_nodesIn_8 (by decide) (fun hc => ?_) (fun hc => ?_)
    · have h := if_t hc h
      refine lv_aload_n hx hb d_Log_nodesIn_15 rfl (lv_at hl 0 rfl) ?_
      refine gF_log_nodes X hP d_Log_nodesIn_16 ?_
      refine lv_iload_n hx hb d_Log_nodesIn_19 rfl (lv_at hl 1 rfl) ?_
      obtain ⟨v1, e1, h⟩ := bd_some h
      refine rF_10 X hP e1 d_Log_nodesIn_20 ?_
      cases h
      exact fx_iret X hP hD hS d_Log_nodesIn_21
    · have h := if_f hc h
      refine lv_iconst (v := 0) hx hb d_Log_nodesIn_11 (by decide) ?_
      refine lv_goto (tgt := 21) hx hb d_Log_nodesIn_12 (by decide) ?_
      cases h
      exact fx_iret X hP hD hS d_Log_nodesIn_21
theorem d_Log_dataIn_0 : decode prog_7_method_11_code 0 = .ok (.iload_n 1, 1) := by decide +kernel
theorem d_Log_dataIn_1 : decode prog_7_method_11_code 1 = .ok (.ifCond .lt 10, 3) := by decide +kernel
theorem d_Log_dataIn_4 : decode prog_7_method_11_code 4 = .ok (.iload_n 1, 1) := by decide +kernel
theorem d_Log_dataIn_5 : decode prog_7_method_11_code 5 = .ok (.sipush 128, 3) := by decide +kernel
theorem d_Log_dataIn_8 : decode prog_7_method_11_code 8 = .ok (.if_icmp .lt 7, 3) := by decide +kernel
theorem d_Log_dataIn_11 : decode prog_7_method_11_code 11 = .ok (.iconst 0, 1) := by decide +kernel
theorem d_Log_dataIn_12 : decode prog_7_method_11_code 12 = .ok (.goto 9, 3) := by decide +kernel
theorem d_Log_dataIn_15 : decode prog_7_method_11_code 15 = .ok (.aload_n 0, 1) := by decide +kernel
theorem d_Log_dataIn_16 : decode prog_7_method_11_code 16 = .ok (.getfield 26, 3) := by decide +kernel
theorem d_Log_dataIn_19 : decode prog_7_method_11_code 19 = .ok (.iload_n 1, 1) := by decide +kernel
theorem d_Log_dataIn_20 : decode prog_7_method_11_code 20 = .ok (.iaload, 1) := by decide +kernel
theorem d_Log_dataIn_21 : decode prog_7_method_11_code 21 = .ok (.ireturn, 1) := by decide +kernel
set_option maxHeartbeats 4000000 in
set_option maxRecDepth 100000 in
theorem m_Log_dataIn {l : Launch} {D : va_G} {ad : Nat → Nat} {ca : Nat → ClassId} {FU : Nat} {x1 : Int32} {g : St} {q : Int32} (h : Log_dataIn FU x1 g = some q) : CI l ⟨"FlashFiles$Log", "dataIn", "(I)I"⟩ prog_7_method_11_code 2 1 (some .int) D (tyF ca) (wF ad ca g) [.ref (ad 5), .int x1] q (wF ad ca g) := by
  intro sz
  refine Met.fx (Qc := fun A => fxQi D (tyF ca) A (wF ad ca g) q) (by decide) (Nat.le_of_ble_eq_true rfl) ?_
  intro p e s m below meth c A ls X hP hD hl
  have hl : lv_has ls 2 [(0, .ref (ad 5)), (1, .int x1)] := hl
  have hS : va_S A s.heap s.heap [] := va_S.rf
  have hx := X.1
  have hb := X.2.1
  unfold Log_dataIn at h
  refine lv_iload_n hx hb d_Log_dataIn_0 rfl (lv_at hl 1 rfl) ?_
  refine lv_if_lt (tgt := 11) hx hb d_Log_dataIn_1 (by decide) (fun hc => ?_) (fun hc => ?_)
  · have h := if_t hc h
    refine lv_iconst (v := 0) hx hb d_Log_dataIn_11 (by decide) ?_
    refine lv_goto (tgt := 21) hx hb d_Log_dataIn_12 (by decide) ?_
    cases h
    exact fx_iret X hP hD hS d_Log_dataIn_21
  · have h := if_f hc h
    refine lv_iload_n hx hb d_Log_dataIn_4 rfl (lv_at hl 1 rfl) ?_
    refine lv_sipush (v := 128) hx hb d_Log_dataIn_5 (by decide) ?_
    refine lv_icmp_lt (tgt := 15) hx hb d_Log_dataIn_8 (by decide) (fun hc => ?_) (fun hc => ?_)
    · have h := if_t hc h
      refine lv_aload_n hx hb d_Log_dataIn_15 rfl (lv_at hl 0 rfl) ?_
      refine gF_log_data X hP d_Log_dataIn_16 ?_
      refine lv_iload_n hx hb d_Log_dataIn_19 rfl (lv_at hl 1 rfl) ?_
      obtain ⟨v1, e1, h⟩ := bd_some h
      refine rF_11 X hP e1 d_Log_dataIn_20 ?_
      cases h
      exact fx_iret X hP hD hS d_Log_dataIn_21
    · have h := if_f hc h
      refine lv_iconst (v := 0) hx hb d_Log_dataIn_11 (by decide) ?_
      refine lv_goto (tgt := 21) hx hb d_Log_dataIn_12 (by decide) ?_
      cases h
      exact fx_iret X hP hD hS d_Log_dataIn_21
theorem d_Log_isFree_0 : decode prog_7_method_12_code 0 = .ok (.iload_n 1, 1) := by decide +kernel
theorem d_Log_isFree_1 : decode prog_7_method_12_code 1 = .ok (.ifCond .lt 24, 3) := by decide +kernel
theorem d_Log_isFree_4 : decode prog_7_method_12_code 4 = .ok (.iload_n 1, 1) := by decide +kernel
theorem d_Log_isFree_5 : decode prog_7_method_12_code 5 = .ok (.aload_n 0, 1) := by decide +kernel
theorem d_Log_isFree_6 : decode prog_7_method_12_code 6 = .ok (.getfield 39, 3) := by decide +kernel
theorem d_Log_isFree_9 : decode prog_7_method_12_code 9 = .ok (.if_icmp .ge 16, 3) := by decide +kernel
theorem d_Log_isFree_12 : decode prog_7_method_12_code 12 = .ok (.aload_n 0, 1) := by decide +kernel
theorem d_Log_isFree_13 : decode prog_7_method_12_code 13 = .ok (.getfield 29, 3) := by decide +kernel
theorem d_Log_isFree_16 : decode prog_7_method_12_code 16 = .ok (.iload_n 1, 1) := by decide +kernel
theorem d_Log_isFree_17 : decode prog_7_method_12_code 17 = .ok (.baload, 1) := by decide +kernel
theorem d_Log_isFree_18 : decode prog_7_method_12_code 18 = .ok (.ifCond .eq 7, 3) := by decide +kernel
theorem d_Log_isFree_21 : decode prog_7_method_12_code 21 = .ok (.iconst 1, 1) := by decide +kernel
theorem d_Log_isFree_22 : decode prog_7_method_12_code 22 = .ok (.goto 4, 3) := by decide +kernel
theorem d_Log_isFree_25 : decode prog_7_method_12_code 25 = .ok (.iconst 0, 1) := by decide +kernel
theorem d_Log_isFree_26 : decode prog_7_method_12_code 26 = .ok (.ireturn, 1) := by decide +kernel
set_option maxHeartbeats 4000000 in
set_option maxRecDepth 100000 in
theorem m_Log_isFree {l : Launch} {D : va_G} {ad : Nat → Nat} {ca : Nat → ClassId} {FU : Nat} {x1 : Int32} {g : St} {q : Int32} (h : Log_isFree FU x1 g = some q) : CI l ⟨"FlashFiles$Log", "isFree", "(I)Z"⟩ prog_7_method_12_code 2 1 (some .boolean) D (tyF ca) (wF ad ca g) [.ref (ad 5), .int x1] q (wF ad ca g) := by
  intro sz
  refine Met.fx (Qc := fun A => fxQi D (tyF ca) A (wF ad ca g) q) (by decide) (Nat.le_of_ble_eq_true rfl) ?_
  intro p e s m below meth c A ls X hP hD hl
  have hl : lv_has ls 2 [(0, .ref (ad 5)), (1, .int x1)] := hl
  have hS : va_S A s.heap s.heap [] := va_S.rf
  have hx := X.1
  have hb := X.2.1
  unfold Log_isFree at h
  refine lv_iload_n hx hb d_Log_isFree_0 rfl (lv_at hl 1 rfl) ?_
  refine lv_if_lt (tgt := 25) hx hb d_Log_isFree_1 (by decide) (fun hc => ?_) (fun hc => ?_)
  · have h := if_t hc h
    refine lv_iconst (v := 0) hx hb d_Log_isFree_25 (by decide) ?_
    cases h
    exact fx_zret X hP hD hS (Or.inl rfl) d_Log_isFree_26
  · have h := if_f hc h
    refine lv_iload_n hx hb d_Log_isFree_4 rfl (lv_at hl 1 rfl) ?_
    refine lv_aload_n hx hb d_Log_isFree_5 rfl (lv_at hl 0 rfl) ?_
    refine gF_log_segments X hP d_Log_isFree_6 ?_
    refine lv_icmp_ge (tgt := 25) hx hb d_Log_isFree_9 (by decide) (fun hc => ?_) (fun hc => ?_)
    · have h := if_t hc h
      refine lv_iconst (v := 0) hx hb d_Log_isFree_25 (by decide) ?_
      cases h
      exact fx_zret X hP hD hS (Or.inl rfl) d_Log_isFree_26
    · have h := if_f hc h
      refine lv_aload_n hx hb d_Log_isFree_12 rfl (lv_at hl 0 rfl) ?_
      refine gF_log_free X hP d_Log_isFree_13 ?_
      refine lv_iload_n hx hb d_Log_isFree_16 rfl (lv_at hl 1 rfl) ?_
      obtain ⟨v1, e1, h⟩ := bd_some h
      refine rF_12 X hP e1 d_Log_isFree_17 ?_
      refine lv_if_eq (tgt := 25) hx hb d_Log_isFree_18 (by decide) (fun hc => ?_) (fun hc => ?_)
      · have h := if_t hc h
        refine lv_iconst (v := 0) hx hb d_Log_isFree_25 (by decide) ?_
        cases h
        exact fx_zret X hP hD hS (Or.inl rfl) d_Log_isFree_26
      · have h := if_f hc h
        refine lv_iconst (v := 1) hx hb d_Log_isFree_21 (by decide) ?_
        refine lv_goto (tgt := 26) hx hb d_Log_isFree_22 (by decide) ?_
        cases h
        exact fx_zret X hP hD hS (Or.inr rfl) d_Log_isFree_26
theorem d_Log_isEnd_0 : decode prog_7_method_13_code 0 = .ok (.iload_n 1, 1) := by decide +kernel
theorem d_Log_isEnd_1 : decode prog_7_method_13_code 1 = .ok (.aload_n 0, 1) := by decide +kernel
theorem d_Log_isEnd_2 : decode prog_7_method_13_code 2 = .ok (.getfield 46, 3) := by decide +kernel
theorem d_Log_isEnd_5 : decode prog_7_method_13_code 5 = .ok (.invokestatic 64, 3) := by decide +kernel
theorem d_Log_isEnd_8 : decode prog_7_method_13_code 8 = .ok (.if_icmp .eq 14, 3) := by decide +kernel
theorem d_Log_isEnd_11 : decode prog_7_method_13_code 11 = .ok (.iload_n 1, 1) := by decide +kernel
theorem d_Log_isEnd_12 : decode prog_7_method_13_code 12 = .ok (.aload_n 0, 1) := by decide +kernel
theorem d_Log_isEnd_13 : decode prog_7_method_13_code 13 = .ok (.getfield 49, 3) := by decide +kernel
theorem d_Log_isEnd_16 : decode prog_7_method_13_code 16 = .ok (.invokestatic 64, 3) := by decide +kernel
theorem d_Log_isEnd_19 : decode prog_7_method_13_code 19 = .ok (.if_icmp .ne 7, 3) := by decide +kernel
theorem d_Log_isEnd_22 : decode prog_7_method_13_code 22 = .ok (.iconst 1, 1) := by decide +kernel
theorem d_Log_isEnd_23 : decode prog_7_method_13_code 23 = .ok (.goto 4, 3) := by decide +kernel
theorem d_Log_isEnd_26 : decode prog_7_method_13_code 26 = .ok (.iconst 0, 1) := by decide +kernel
theorem d_Log_isEnd_27 : decode prog_7_method_13_code 27 = .ok (.ireturn, 1) := by decide +kernel
set_option maxHeartbeats 4000000 in
set_option maxRecDepth 100000 in
theorem m_Log_isEnd {l : Launch} {D : va_G} {ad : Nat → Nat} {ca : Nat → ClassId} {FU : Nat} {x1 : Int32} {g : St} {q : Int32} (h : Log_isEnd FU x1 g = some q) : CI l ⟨"FlashFiles$Log", "isEnd", "(I)Z"⟩ prog_7_method_13_code 2 2 (some .boolean) D (tyF ca) (wF ad ca g) [.ref (ad 5), .int x1] q (wF ad ca g) := by
  intro sz
  refine Met.fx (Qc := fun A => fxQi D (tyF ca) A (wF ad ca g) q) (by decide) (Nat.le_of_ble_eq_true rfl) ?_
  intro p e s m below meth c A ls X hP hD hl
  have hl : lv_has ls 2 [(0, .ref (ad 5)), (1, .int x1)] := hl
  have hS : va_S A s.heap s.heap [] := va_S.rf
  have hx := X.1
  have hb := X.2.1
  unfold Log_isEnd at h
  refine lv_iload_n hx hb d_Log_isEnd_0 rfl (lv_at hl 1 rfl) ?_
  refine lv_aload_n hx hb d_Log_isEnd_1 rfl (lv_at hl 0 rfl) ?_
  refine gF_log_nodeEnd X hP d_Log_isEnd_2 ?_
  obtain ⟨v1, e1, h⟩ := bd_some h
  refine fx_i X (fx_runN X (m_FF_segmentOf e1 _) (As := [.int (g.1 8)]) hP hD kn_Log_64 ⟨Nat.le_of_ble_eq_true rfl, Nat.le_of_ble_eq_true rfl⟩ rfl hl.1 rfl (Nat.le_of_ble_eq_true rfl) d_Log_isEnd_5) hD hS (fun H locs hP hD hS => ?_)
  refine lv_icmp_eq (tgt := 22) hx hb d_Log_isEnd_8 (by decide) (fun hc => ?_) (fun hc => ?_)
  · have h := if_t hc h
    refine lv_iconst (v := 1) hx hb d_Log_isEnd_22 (by decide) ?_
    refine lv_goto (tgt := 27) hx hb d_Log_isEnd_23 (by decide) ?_
    cases h
    exact fx_zret X hP hD hS (Or.inr rfl) d_Log_isEnd_27
  · have h := if_f hc h
    refine lv_iload_n hx hb d_Log_isEnd_11 rfl (lv_at hl 1 rfl) ?_
    refine lv_aload_n hx hb d_Log_isEnd_12 rfl (lv_at hl 0 rfl) ?_
    refine gF_log_dataEnd X hP d_Log_isEnd_13 ?_
    obtain ⟨v2, e1, h⟩ := bd_some h
    refine fx_i X (fx_runN X (m_FF_segmentOf e1 _) (As := [.int (g.1 9)]) hP hD kn_Log_64 ⟨Nat.le_of_ble_eq_true rfl, Nat.le_of_ble_eq_true rfl⟩ rfl hl.1 rfl (Nat.le_of_ble_eq_true rfl) d_Log_isEnd_16) hD hS (fun H locs hP hD hS => ?_)
    refine lv_icmp_ne (tgt := 26) hx hb d_Log_isEnd_19 (by decide) (fun hc => ?_) (fun hc => ?_)
    · have h := if_f hc h
      refine lv_iconst (v := 0) hx hb d_Log_isEnd_26 (by decide) ?_
      cases h
      exact fx_zret X hP hD hS (Or.inl rfl) d_Log_isEnd_27
    · have h := if_t hc h
      refine lv_iconst (v := 1) hx hb d_Log_isEnd_22 (by decide) ?_
      refine lv_goto (tgt := 27) hx hb d_Log_isEnd_23 (by decide) ?_
      cases h
      exact fx_zret X hP hD hS (Or.inr rfl) d_Log_isEnd_27
theorem d_Log_isDead_0 : decode prog_7_method_14_code 0 = .ok (.aload_n 0, 1) := by decide +kernel
theorem d_Log_isDead_1 : decode prog_7_method_14_code 1 = .ok (.iload_n 1, 1) := by decide +kernel
theorem d_Log_isDead_2 : decode prog_7_method_14_code 2 = .ok (.invokevirtual 68, 3) := by decide +kernel
theorem d_Log_isDead_5 : decode prog_7_method_14_code 5 = .ok (.aload_n 0, 1) := by decide +kernel
theorem d_Log_isDead_6 : decode prog_7_method_14_code 6 = .ok (.iload_n 1, 1) := by decide +kernel
theorem d_Log_isDead_7 : decode prog_7_method_14_code 7 = .ok (.invokevirtual 71, 3) := by decide +kernel
theorem d_Log_isDead_10 : decode prog_7_method_14_code 10 = .ok (.iadd, 1) := by decide +kernel
theorem d_Log_isDead_11 : decode prog_7_method_14_code 11 = .ok (.ifCond .ne 15, 3) := by decide +kernel
theorem d_Log_isDead_14 : decode prog_7_method_14_code 14 = .ok (.aload_n 0, 1) := by decide +kernel
theorem d_Log_isDead_15 : decode prog_7_method_14_code 15 = .ok (.iload_n 1, 1) := by decide +kernel
theorem d_Log_isDead_16 : decode prog_7_method_14_code 16 = .ok (.invokevirtual 74, 3) := by decide +kernel
theorem d_Log_isDead_19 : decode prog_7_method_14_code 19 = .ok (.ifCond .ne 7, 3) := by decide +kernel
theorem d_Log_isDead_22 : decode prog_7_method_14_code 22 = .ok (.iconst 1, 1) := by decide +kernel
theorem d_Log_isDead_23 : decode prog_7_method_14_code 23 = .ok (.goto 4, 3) := by decide +kernel
theorem d_Log_isDead_26 : decode prog_7_method_14_code 26 = .ok (.iconst 0, 1) := by decide +kernel
theorem d_Log_isDead_27 : decode prog_7_method_14_code 27 = .ok (.ireturn, 1) := by decide +kernel
set_option maxHeartbeats 4000000 in
set_option maxRecDepth 100000 in
theorem m_Log_isDead {l : Launch} {D : va_G} {ad : Nat → Nat} {ca : Nat → ClassId} {FU : Nat} {x1 : Int32} {g : St} {q : Int32} (h : Log_isDead FU x1 g = some q) : CI l ⟨"FlashFiles$Log", "isDead", "(I)Z"⟩ prog_7_method_14_code 2 3 (some .boolean) D (tyF ca) (wF ad ca g) [.ref (ad 5), .int x1] q (wF ad ca g) := by
  intro sz
  refine Met.fx (Qc := fun A => fxQi D (tyF ca) A (wF ad ca g) q) (by decide) (Nat.le_of_ble_eq_true rfl) ?_
  intro p e s m below meth c A ls X hP hD hl
  have hl : lv_has ls 2 [(0, .ref (ad 5)), (1, .int x1)] := hl
  have hS : va_S A s.heap s.heap [] := va_S.rf
  have hx := X.1
  have hb := X.2.1
  unfold Log_isDead at h
  refine lv_aload_n hx hb d_Log_isDead_0 rfl (lv_at hl 0 rfl) ?_
  refine lv_iload_n hx hb d_Log_isDead_1 rfl (lv_at hl 1 rfl) ?_
  obtain ⟨v1, e1, h⟩ := bd_some h
  refine fx_i X (fx_runV (As := [.int x1]) X (m_Log_nodesIn e1 _) hP hD kv_Log_68 ⟨Nat.le_of_ble_eq_true rfl, Nat.le_of_ble_eq_true rfl⟩ 5 rfl rfl rfl hl.1 rfl (Nat.le_of_ble_eq_true rfl) d_Log_isDead_2) hD hS (fun H locs hP hD hS => ?_)
  refine lv_aload_n hx hb d_Log_isDead_5 rfl (lv_at hl 0 rfl) ?_
  refine lv_iload_n hx hb d_Log_isDead_6 rfl (lv_at hl 1 rfl) ?_
  obtain ⟨v2, e1, h⟩ := bd_some h
  refine fx_i X (fx_runV (As := [.int x1]) X (m_Log_dataIn e1 _) hP hD kv_Log_71 ⟨Nat.le_of_ble_eq_true rfl, Nat.le_of_ble_eq_true rfl⟩ 5 rfl rfl rfl hl.1 rfl (Nat.le_of_ble_eq_true rfl) d_Log_isDead_7) hD hS (fun H locs hP hD hS => ?_)
  refine lv_iadd hx hb d_Log_isDead_10 ?_
  refine lv_if_ne (tgt := 26) hx hb d_Log_isDead_11 (by decide) (fun hc => ?_) (fun hc => ?_)
  · have h := if_f hc h
    refine lv_iconst (v := 0) hx hb d_Log_isDead_26 (by decide) ?_
    cases h
    exact fx_zret X hP hD hS (Or.inl rfl) d_Log_isDead_27
  · have h := if_t hc h
    refine lv_aload_n hx hb d_Log_isDead_14 rfl (lv_at hl 0 rfl) ?_
    refine lv_iload_n hx hb d_Log_isDead_15 rfl (lv_at hl 1 rfl) ?_
    obtain ⟨v3, e1, h⟩ := bd_some h
    refine fx_i X (fx_runV (As := [.int x1]) X (m_Log_isEnd e1 _) hP hD kv_Log_74 ⟨Nat.le_of_ble_eq_true rfl, Nat.le_of_ble_eq_true rfl⟩ 5 rfl rfl rfl hl.1 rfl (Nat.le_of_ble_eq_true rfl) d_Log_isDead_16) hD hS (fun H locs hP hD hS => ?_)
    refine lv_if_ne (tgt := 26) hx hb d_Log_isDead_19 (by decide) (fun hc => ?_) (fun hc => ?_)
    · have h := if_f hc h
      refine lv_iconst (v := 0) hx hb d_Log_isDead_26 (by decide) ?_
      cases h
      exact fx_zret X hP hD hS (Or.inl rfl) d_Log_isDead_27
    · have h := if_t hc h
      refine lv_iconst (v := 1) hx hb d_Log_isDead_22 (by decide) ?_
      refine lv_goto (tgt := 27) hx hb d_Log_isDead_23 (by decide) ?_
      cases h
      exact fx_zret X hP hD hS (Or.inr rfl) d_Log_isDead_27
theorem d_Log_setFree_0 : decode prog_7_method_15_code 0 = .ok (.iload_n 1, 1) := by decide +kernel
theorem d_Log_setFree_1 : decode prog_7_method_15_code 1 = .ok (.ifCond .lt 50, 3) := by decide +kernel
theorem d_Log_setFree_4 : decode prog_7_method_15_code 4 = .ok (.iload_n 1, 1) := by decide +kernel
theorem d_Log_setFree_5 : decode prog_7_method_15_code 5 = .ok (.aload_n 0, 1) := by decide +kernel
theorem d_Log_setFree_6 : decode prog_7_method_15_code 6 = .ok (.getfield 39, 3) := by decide +kernel
theorem d_Log_setFree_9 : decode prog_7_method_15_code 9 = .ok (.if_icmp .ge 42, 3) := by decide +kernel
theorem d_Log_setFree_12 : decode prog_7_method_15_code 12 = .ok (.aload_n 0, 1) := by decide +kernel
theorem d_Log_setFree_13 : decode prog_7_method_15_code 13 = .ok (.getfield 29, 3) := by decide +kernel
theorem d_Log_setFree_16 : decode prog_7_method_15_code 16 = .ok (.iload_n 1, 1) := by decide +kernel
theorem d_Log_setFree_17 : decode prog_7_method_15_code 17 = .ok (.baload, 1) := by decide +kernel
theorem d_Log_setFree_18 : decode prog_7_method_15_code 18 = .ok (.ifCond .ne 33, 3) := by decide +kernel
theorem d_Log_setFree_21 : decode prog_7_method_15_code 21 = .ok (.aload_n 0, 1) := by decide +kernel
theorem d_Log_setFree_22 : decode prog_7_method_15_code 22 = .ok (.getfield 9, 3) := by decide +kernel
theorem d_Log_setFree_25 : decode prog_7_method_15_code 25 = .ok (.iload_n 1, 1) := by decide +kernel
theorem d_Log_setFree_26 : decode prog_7_method_15_code 26 = .ok (.invokestatic 78, 3) := by decide +kernel
theorem d_Log_setFree_29 : decode prog_7_method_15_code 29 = .ok (.bipush 16, 2) := by decide +kernel
theorem d_Log_setFree_31 : decode prog_7_method_15_code 31 = .ok (.invokevirtual 81, 3) := by decide +kernel
theorem d_Log_setFree_34 : decode prog_7_method_15_code 34 = .ok (.aload_n 0, 1) := by decide +kernel
theorem d_Log_setFree_35 : decode prog_7_method_15_code 35 = .ok (.getfield 29, 3) := by decide +kernel
theorem d_Log_setFree_38 : decode prog_7_method_15_code 38 = .ok (.iload_n 1, 1) := by decide +kernel
theorem d_Log_setFree_39 : decode prog_7_method_15_code 39 = .ok (.iconst 1, 1) := by decide +kernel
theorem d_Log_setFree_40 : decode prog_7_method_15_code 40 = .ok (.bastore, 1) := by decide +kernel
theorem d_Log_setFree_41 : decode prog_7_method_15_code 41 = .ok (.aload_n 0, 1) := by decide +kernel
theorem d_Log_setFree_42 : decode prog_7_method_15_code 42 = .ok (.dup, 1) := by decide +kernel
theorem d_Log_setFree_43 : decode prog_7_method_15_code 43 = .ok (.getfield 43, 3) := by decide +kernel
theorem d_Log_setFree_46 : decode prog_7_method_15_code 46 = .ok (.iconst 1, 1) := by decide +kernel
theorem d_Log_setFree_47 : decode prog_7_method_15_code 47 = .ok (.iadd, 1) := by decide +kernel
theorem d_Log_setFree_48 : decode prog_7_method_15_code 48 = .ok (.putfield 43, 3) := by decide +kernel
theorem d_Log_setFree_51 : decode prog_7_method_15_code 51 = .ok (.return_, 1) := by decide +kernel
set_option maxHeartbeats 4000000 in
set_option maxRecDepth 100000 in
theorem m_Log_setFree {l : Launch} {D : va_G} {ad : Nat → Nat} {ca : Nat → ClassId} {FU : Nat} {x1 : Int32} {g : St} {q : St} (h : Log_setFree FU x1 g = some q) : CV l ⟨"FlashFiles$Log", "setFree", "(I)V"⟩ prog_7_method_15_code 2 5 D (tyF ca) (wF ad ca g) [.ref (ad 5), .int x1] (wF ad ca q) := by
  intro sz
  refine Met.fx (Qc := fun A => fxQv D (tyF ca) A (wF ad ca q)) (by decide) (Nat.le_of_ble_eq_true rfl) ?_
  intro p e s m below meth c A ls X hP hD hl
  have hl : lv_has ls 2 [(0, .ref (ad 5)), (1, .int x1)] := hl
  have hS : va_S A s.heap s.heap [] := va_S.rf
  have hx := X.1
  have hb := X.2.1
  unfold Log_setFree at h
  refine lv_iload_n hx hb d_Log_setFree_0 rfl (lv_at hl 1 rfl) ?_
  refine lv_if_lt (tgt := 51) hx hb d_Log_setFree_1 (by decide) (fun hc => ?_) (fun hc => ?_)
  · have h := if_t hc h
    cases h
    exact fx_vret X hP hD hS d_Log_setFree_51
  · have h := if_f hc h
    refine lv_iload_n hx hb d_Log_setFree_4 rfl (lv_at hl 1 rfl) ?_
    refine lv_aload_n hx hb d_Log_setFree_5 rfl (lv_at hl 0 rfl) ?_
    refine gF_log_segments X hP d_Log_setFree_6 ?_
    refine lv_icmp_ge (tgt := 51) hx hb d_Log_setFree_9 (by decide) (fun hc => ?_) (fun hc => ?_)
    · have h := if_t hc h
      cases h
      exact fx_vret X hP hD hS d_Log_setFree_51
    · have h := if_f hc h
      refine lv_aload_n hx hb d_Log_setFree_12 rfl (lv_at hl 0 rfl) ?_
      refine gF_log_free X hP d_Log_setFree_13 ?_
      refine lv_iload_n hx hb d_Log_setFree_16 rfl (lv_at hl 1 rfl) ?_
      obtain ⟨v1, e1, h⟩ := bd_some h
      refine rF_12 X hP e1 d_Log_setFree_17 ?_
      refine lv_if_ne (tgt := 51) hx hb d_Log_setFree_18 (by decide) (fun hc => ?_) (fun hc => ?_)
      · have h := if_f hc h
        cases h
        exact fx_vret X hP hD hS d_Log_setFree_51
      · have h := if_t hc h
        refine lv_aload_n hx hb d_Log_setFree_21 rfl (lv_at hl 0 rfl) ?_
        refine gF_log_device X hP d_Log_setFree_22 ?_
        refine lv_iload_n hx hb d_Log_setFree_25 rfl (lv_at hl 1 rfl) ?_
        obtain ⟨v2, e1, h⟩ := bd_some h
        refine fx_i X (fx_runN X (m_FF_firstOf e1 _) (As := [.int x1]) hP hD kn_Log_78 ⟨Nat.le_of_ble_eq_true rfl, Nat.le_of_ble_eq_true rfl⟩ rfl hl.1 rfl (Nat.le_of_ble_eq_true rfl) d_Log_setFree_26) hD hS (fun H locs hP hD hS => ?_)
        refine lv_bipush (v := 16) hx hb d_Log_setFree_29 (by decide) ?_
        obtain ⟨p3, e1, h⟩ := bd_some h
        refine fx_v X (fx_runV (As := [.int v2, .int (16 : Int32)]) X (m_Dev_erase e1 _) hP hD kv_Log_81 ⟨Nat.le_of_ble_eq_true rfl, Nat.le_of_ble_eq_true rfl⟩ 3 rfl rfl rfl hl.1 rfl (Nat.le_of_ble_eq_true rfl) d_Log_setFree_31) hD hS (fun H locs hP hD hS => ?_)
        refine lv_aload_n hx hb d_Log_setFree_34 rfl (lv_at hl 0 rfl) ?_
        refine gF_log_free X hP d_Log_setFree_35 ?_
        refine lv_iload_n hx hb d_Log_setFree_38 rfl (lv_at hl 1 rfl) ?_
        refine lv_iconst (v := 1) hx hb d_Log_setFree_39 (by decide) ?_
        obtain ⟨g4, e1, h⟩ := bd_some h
        refine sF_12 X hP hD hS e1 d_Log_setFree_40 (fun H locs hP hD hS => ?_)
        refine lv_aload_n hx hb d_Log_setFree_41 rfl (lv_at hl 0 rfl) ?_
        refine lv_dup hx hb d_Log_setFree_42 rfl ?_
        refine gF_log_freeSegments X hP d_Log_setFree_43 ?_
        refine lv_iconst (v := 1) hx hb d_Log_setFree_46 (by decide) ?_
        refine lv_iadd hx hb d_Log_setFree_47 ?_
        obtain ⟨g5, e1, h⟩ := nx_some h
        refine uF_log_freeSegments X hP hD hS e1 d_Log_setFree_48 (fun H locs hP hD hS => ?_)
        cases h
        exact fx_vret X hP hD hS d_Log_setFree_51
theorem d_Log_freeDead_0 : decode prog_7_method_16_code 0 = .ok (.iconst 0, 1) := by decide +kernel
theorem d_Log_freeDead_1 : decode prog_7_method_16_code 1 = .ok (.istore_n 1, 1) := by decide +kernel
theorem d_Log_freeDead_2 : decode prog_7_method_16_code 2 = .ok (.iload_n 1, 1) := by decide +kernel
theorem d_Log_freeDead_3 : decode prog_7_method_16_code 3 = .ok (.aload_n 0, 1) := by decide +kernel
theorem d_Log_freeDead_4 : decode prog_7_method_16_code 4 = .ok (.getfield 39, 3) := by decide +kernel
theorem d_Log_freeDead_7 : decode prog_7_method_16_code 7 = .ok (.if_icmp .ge 22, 3) := by decide +kernel
theorem d_Log_freeDead_10 : decode prog_7_method_16_code 10 = .ok (.aload_n 0, 1) := by decide +kernel
theorem d_Log_freeDead_11 : decode prog_7_method_16_code 11 = .ok (.iload_n 1, 1) := by decide +kernel
theorem d_Log_freeDead_12 : decode prog_7_method_16_code 12 = .ok (.invokevirtual 87, 3) := by decide +kernel
theorem d_Log_freeDead_15 : decode prog_7_method_16_code 15 = .ok (.ifCond .eq 8, 3) := by decide +kernel
theorem d_Log_freeDead_18 : decode prog_7_method_16_code 18 = .ok (.aload_n 0, 1) := by decide +kernel
theorem d_Log_freeDead_19 : decode prog_7_method_16_code 19 = .ok (.iload_n 1, 1) := by decide +kernel
theorem d_Log_freeDead_20 : decode prog_7_method_16_code 20 = .ok (.invokevirtual 90, 3) := by decide +kernel
theorem d_Log_freeDead_23 : decode prog_7_method_16_code 23 = .ok (.iinc 1 1, 3) := by decide +kernel
theorem d_Log_freeDead_26 : decode prog_7_method_16_code 26 = .ok (.goto (-24), 3) := by decide +kernel
theorem d_Log_freeDead_29 : decode prog_7_method_16_code 29 = .ok (.return_, 1) := by decide +kernel
set_option maxHeartbeats 4000000 in
set_option maxRecDepth 100000 in
theorem v_Log_freeDead_23 {p : Program} {l : Launch} {e : Env} {s : State} {m : MethodId} {args : Array Value} {below : List Frame} {meth : Method} {c : Code} {D : va_G} {ad : Nat → Nat} {ca : Nat → ClassId} {A : Nat → Prop} {FU : Nat} {q : St} (X : FX p s m meth c prog_7_method_16_code 2 none "FlashFiles$Log" D (tyF ca) A) {k2 : Int32 → St → Option (St)} (hk2 : ∀ (y1 : Int32) (g : St) (H : Heap) (locs : List Loc) (ls : Array Slot), va_P D cls (wF ad ca g) H → va_D A (wF ad ca g) → va_S A s.heap H locs → lv_has ls 2 [(0, .ref (ad 5)), (1, .int y1)] → k2 y1 g = some q → W p l e (rmN 6) s m args below meth c H locs 0 0 (MQ below (fxQv D (tyF ca) A (wF ad ca q)) args s 0 0 A) (F0 m 2 ls [])) {y1 : Int32} {g : St} {H : Heap} {locs : List Loc} {ls : Array Slot} (hP : va_P D cls (wF ad ca g) H) (hD : va_D A (wF ad ca g)) (hS : va_S A s.heap H locs) (hl : lv_has ls 2 [(0, .ref (ad 5)), (1, .int y1)]) (h : Log_freeDead_b23 FU k2 y1 g = some q) : W p l e (rmN 6) s m args below meth c H locs 0 0 (MQ below (fxQv D (tyF ca) A (wF ad ca q)) args s 0 0 A) (F0 m 23 ls []) := by
  have hx := X.1
  have hb := X.2.1
  unfold Log_freeDead_b23 at h
  refine lv_iinc (k := 1) (v := (y1 + (1 : Int32))) hx hb d_Log_freeDead_23 hl rfl (oi_1 _) (by decide) rfl (fun ls hl => ?_)
  have hl : lv_has ls 2 [(1, .int (y1 + (1 : Int32))), (0, .ref (ad 5))] := hl
  refine lv_goto (tgt := 2) hx hb d_Log_freeDead_26 (by decide) ?_
  exact hk2 _ _ _ _ _ hP hD hS (lv_sub hl [1, 0] rfl) h
set_option maxHeartbeats 4000000 in
set_option maxRecDepth 100000 in
theorem v_Log_freeDead_2 {p : Program} {l : Launch} {e : Env} {s : State} {m : MethodId} {args : Array Value} {below : List Frame} {meth : Method} {c : Code} {D : va_G} {ad : Nat → Nat} {ca : Nat → ClassId} {A : Nat → Prop} {FU : Nat} {q : St} (X : FX p s m meth c prog_7_method_16_code 2 none "FlashFiles$Log" D (tyF ca) A) : ∀ (n : Nat), ∀ (y1 : Int32) (g : St) (H : Heap) (locs : List Loc) (ls : Array Slot), va_P D cls (wF ad ca g) H → va_D A (wF ad ca g) → va_S A s.heap H locs → lv_has ls 2 [(0, .ref (ad 5)), (1, .int y1)] → Log_freeDead_b2 FU n y1 g = some q → W p l e (rmN 6) s m args below meth c H locs 0 0 (MQ below (fxQv D (tyF ca) A (wF ad ca q)) args s 0 0 A) (F0 m 2 ls []) := by
  have hx := X.1
  have hb := X.2.1
  intro n
  induction n with
  | zero =>
    intro y1 g H locs ls hP hD hS hl h
    cases h
  | succ n ih =>
    intro y1 g H locs ls hP hD hS hl h
    have h := h
    rw [Log_freeDead_b2.eq_2] at h
    refine lv_iload_n hx hb d_Log_freeDead_2 rfl (lv_at hl 1 rfl) ?_
    refine lv_aload_n hx hb d_Log_freeDead_3 rfl (lv_at hl 0 rfl) ?_
    refine gF_log_segments X hP d_Log_freeDead_4 ?_
    refine lv_icmp_ge (tgt := 29) hx hb d_Log_freeDead_7 (by decide) (fun hc => ?_) (fun hc => ?_)
    · have h := if_t hc h
      cases h
      exact fx_vret X hP hD hS d_Log_freeDead_29
    · have h := if_f hc h
      refine lv_aload_n hx hb d_Log_freeDead_10 rfl (lv_at hl 0 rfl) ?_
      refine lv_iload_n hx hb d_Log_freeDead_11 rfl (lv_at hl 1 rfl) ?_
      obtain ⟨v1, e1, h⟩ := bd_some h
      refine fx_i X (fx_runV (As := [.int y1]) X (m_Log_isDead e1 _) hP hD kv_Log_87 ⟨Nat.le_of_ble_eq_true rfl, Nat.le_of_ble_eq_true rfl⟩ 5 rfl rfl rfl hl.1 rfl (Nat.le_of_ble_eq_true rfl) d_Log_freeDead_12) hD hS (fun H locs hP hD hS => ?_)
      refine lv_if_eq (tgt := 23) hx hb d_Log_freeDead_15 (by decide) (fun hc => ?_) (fun hc => ?_)
      · have h := if_t hc h
        exact v_Log_freeDead_23 X ih hP hD hS (lv_sub hl [0, 1] rfl) h
      · have h := if_f hc h
        refine lv_aload_n hx hb d_Log_freeDead_18 rfl (lv_at hl 0 rfl) ?_
        refine lv_iload_n hx hb d_Log_freeDead_19 rfl (lv_at hl 1 rfl) ?_
        obtain ⟨p2, e1, h⟩ := bd_some h
        refine fx_v X (fx_runV (As := [.int y1]) X (m_Log_setFree e1 _) hP hD kv_Log_90 ⟨Nat.le_of_ble_eq_true rfl, Nat.le_of_ble_eq_true rfl⟩ 5 rfl rfl rfl hl.1 rfl (Nat.le_of_ble_eq_true rfl) d_Log_freeDead_20) hD hS (fun H locs hP hD hS => ?_)
        exact v_Log_freeDead_23 X ih hP hD hS (lv_sub hl [0, 1] rfl) h
set_option maxHeartbeats 4000000 in
set_option maxRecDepth 100000 in
theorem m_Log_freeDead {l : Launch} {D : va_G} {ad : Nat → Nat} {ca : Nat → ClassId} {FU : Nat} {g : St} {q : St} (h : Log_freeDead FU  g = some q) : CV l ⟨"FlashFiles$Log", "freeDead", "()V"⟩ prog_7_method_16_code 2 6 D (tyF ca) (wF ad ca g) [.ref (ad 5)] (wF ad ca q) := by
  intro sz
  refine Met.fx (Qc := fun A => fxQv D (tyF ca) A (wF ad ca q)) (by decide) (Nat.le_of_ble_eq_true rfl) ?_
  intro p e s m below meth c A ls X hP hD hl
  have hl : lv_has ls 2 [(0, .ref (ad 5))] := hl
  have hS : va_S A s.heap s.heap [] := va_S.rf
  have hx := X.1
  have hb := X.2.1
  unfold Log_freeDead at h
  refine lv_iconst (v := 0) hx hb d_Log_freeDead_0 (by decide) ?_
  refine lv_istore_n hx hb d_Log_freeDead_1 rfl hl (by decide) rfl (fun ls hl => ?_)
  have hl : lv_has ls 2 [(1, .int (0 : Int32)), (0, .ref (ad 5))] := hl
  exact v_Log_freeDead_2 X  _ _ _ _ _ _ hP hD hS (lv_sub hl [1, 0] rfl) h
theorem d_Log_openSegment_0 : decode prog_7_method_24_code 0 = .ok (.iconst 1, 1) := by decide +kernel
theorem d_Log_openSegment_1 : decode prog_7_method_24_code 1 = .ok (.istore_n 1, 1) := by decide +kernel
theorem d_Log_openSegment_2 : decode prog_7_method_24_code 2 = .ok (.iload_n 1, 1) := by decide +kernel
theorem d_Log_openSegment_3 : decode prog_7_method_24_code 3 = .ok (.aload_n 0, 1) := by decide +kernel
theorem d_Log_openSegment_4 : decode prog_7_method_24_code 4 = .ok (.getfield 39, 3) := by decide +kernel
theorem d_Log_openSegment_7 : decode prog_7_method_24_code 7 = .ok (.if_icmp .gt 57, 3) := by decide +kernel
theorem d_Log_openSegment_10 : decode prog_7_method_24_code 10 = .ok (.aload_n 0, 1) := by decide +kernel
theorem d_Log_openSegment_11 : decode prog_7_method_24_code 11 = .ok (.getfield 52, 3) := by decide +kernel
theorem d_Log_openSegment_14 : decode prog_7_method_24_code 14 = .ok (.iload_n 1, 1) := by decide +kernel
theorem d_Log_openSegment_15 : decode prog_7_method_24_code 15 = .ok (.iadd, 1) := by decide +kernel
theorem d_Log_openSegment_16 : decode prog_7_method_24_code 16 = .ok (.aload_n 0, 1) := by decide +kernel
theorem d_Log_openSegment_17 : decode prog_7_method_24_code 17 = .ok (.getfield 39, 3) := by decide +kernel
theorem d_Log_openSegment_20 : decode prog_7_method_24_code 20 = .ok (.irem, 1) := by decide +kernel
theorem d_Log_openSegment_21 : decode prog_7_method_24_code 21 = .ok (.istore_n 2, 1) := by decide +kernel
theorem d_Log_openSegment_22 : decode prog_7_method_24_code 22 = .ok (.aload_n 0, 1) := by decide +kernel
theorem d_Log_openSegment_23 : decode prog_7_method_24_code 23 = .ok (.getfield 29, 3) := by decide +kernel
theorem d_Log_openSegment_26 : decode prog_7_method_24_code 26 = .ok (.iload_n 2, 1) := by decide +kernel
theorem d_Log_openSegment_27 : decode prog_7_method_24_code 27 = .ok (.baload, 1) := by decide +kernel
theorem d_Log_openSegment_28 : decode prog_7_method_24_code 28 = .ok (.ifCond .eq 30, 3) := by decide +kernel
theorem d_Log_openSegment_31 : decode prog_7_method_24_code 31 = .ok (.aload_n 0, 1) := by decide +kernel
theorem d_Log_openSegment_32 : decode prog_7_method_24_code 32 = .ok (.getfield 29, 3) := by decide +kernel
theorem d_Log_openSegment_35 : decode prog_7_method_24_code 35 = .ok (.iload_n 2, 1) := by decide +kernel
theorem d_Log_openSegment_36 : decode prog_7_method_24_code 36 = .ok (.iconst 0, 1) := by decide +kernel
theorem d_Log_openSegment_37 : decode prog_7_method_24_code 37 = .ok (.bastore, 1) := by decide +kernel
theorem d_Log_openSegment_38 : decode prog_7_method_24_code 38 = .ok (.aload_n 0, 1) := by decide +kernel
theorem d_Log_openSegment_39 : decode prog_7_method_24_code 39 = .ok (.dup, 1) := by decide +kernel
theorem d_Log_openSegment_40 : decode prog_7_method_24_code 40 = .ok (.getfield 43, 3) := by decide +kernel
theorem d_Log_openSegment_43 : decode prog_7_method_24_code 43 = .ok (.iconst 1, 1) := by decide +kernel
theorem d_Log_openSegment_44 : decode prog_7_method_24_code 44 = .ok (.isub, 1) := by decide +kernel
theorem d_Log_openSegment_45 : decode prog_7_method_24_code 45 = .ok (.putfield 43, 3) := by decide +kernel
theorem d_Log_openSegment_48 : decode prog_7_method_24_code 48 = .ok (.aload_n 0, 1) := by decide +kernel
theorem d_Log_openSegment_49 : decode prog_7_method_24_code 49 = .ok (.iload_n 2, 1) := by decide +kernel
theorem d_Log_openSegment_50 : decode prog_7_method_24_code 50 = .ok (.putfield 52, 3) := by decide +kernel
theorem d_Log_openSegment_53 : decode prog_7_method_24_code 53 = .ok (.iload_n 2, 1) := by decide +kernel
theorem d_Log_openSegment_54 : decode prog_7_method_24_code 54 = .ok (.invokestatic 78, 3) := by decide +kernel
theorem d_Log_openSegment_57 : decode prog_7_method_24_code 57 = .ok (.ireturn, 1) := by decide +kernel
theorem d_Log_openSegment_58 : decode prog_7_method_24_code 58 = .ok (.iinc 1 1, 3) := by decide +kernel
theorem d_Log_openSegment_61 : decode prog_7_method_24_code 61 = .ok (.goto (-59), 3) := by decide +kernel
theorem d_Log_openSegment_64 : decode prog_7_method_24_code 64 = .ok (.sipush 2117, 3) := by decide +kernel
theorem d_Log_openSegment_67 : decode prog_7_method_24_code 67 = .ok (.ireturn, 1) := by decide +kernel
set_option maxHeartbeats 4000000 in
set_option maxRecDepth 100000 in
theorem v_Log_openSegment_2 {p : Program} {l : Launch} {e : Env} {s : State} {m : MethodId} {args : Array Value} {below : List Frame} {meth : Method} {c : Code} {D : va_G} {ad : Nat → Nat} {ca : Nat → ClassId} {A : Nat → Prop} {FU : Nat} {q : Int32 × St} (X : FX p s m meth c prog_7_method_24_code 3 (some .int) "FlashFiles$Log" D (tyF ca) A) : ∀ (n : Nat), ∀ (y1 : Int32) (g : St) (H : Heap) (locs : List Loc) (ls : Array Slot), va_P D cls (wF ad ca g) H → va_D A (wF ad ca g) → va_S A s.heap H locs → lv_has ls 3 [(0, .ref (ad 5)), (1, .int y1)] → Log_openSegment_b2 FU n y1 g = some q → W p l e (rmN 2) s m args below meth c H locs 0 0 (MQ below (fxQi D (tyF ca) A (wF ad ca q.2) q.1) args s 0 0 A) (F0 m 2 ls []) := by
  have hx := X.1
  have hb := X.2.1
  intro n
  induction n with
  | zero =>
    intro y1 g H locs ls hP hD hS hl h
    cases h
  | succ n ih =>
    intro y1 g H locs ls hP hD hS hl h
    have h := h
    rw [Log_openSegment_b2.eq_2] at h
    refine lv_iload_n hx hb d_Log_openSegment_2 rfl (lv_at hl 1 rfl) ?_
    refine lv_aload_n hx hb d_Log_openSegment_3 rfl (lv_at hl 0 rfl) ?_
    refine gF_log_segments X hP d_Log_openSegment_4 ?_
    refine lv_icmp_gt (tgt := 64) hx hb d_Log_openSegment_7 (by decide) (fun hc => ?_) (fun hc => ?_)
    · have h := if_t hc h
      refine lv_sipush (v := 2117) hx hb d_Log_openSegment_64 (by decide) ?_
      cases h
      exact fx_iret X hP hD hS d_Log_openSegment_67
    · have h := if_f hc h
      refine lv_aload_n hx hb d_Log_openSegment_10 rfl (lv_at hl 0 rfl) ?_
      refine gF_log_lastOpened X hP d_Log_openSegment_11 ?_
      refine lv_iload_n hx hb d_Log_openSegment_14 rfl (lv_at hl 1 rfl) ?_
      refine lv_iadd hx hb d_Log_openSegment_15 ?_
      refine lv_aload_n hx hb d_Log_openSegment_16 rfl (lv_at hl 0 rfl) ?_
      refine gF_log_segments X hP d_Log_openSegment_17 ?_
      obtain ⟨hz, h⟩ | ⟨hz, h⟩ := if_some h
      · cases h
      refine lv_irem hx hb d_Log_openSegment_20 hz ?_
      refine lv_istore_n hx hb d_Log_openSegment_21 rfl hl (by decide) rfl (fun ls hl => ?_)
      have hl : lv_has ls 3 [(2, .int (((g.1 10) + y1) - ((g.1 10) + y1) / (g.1 6) * (g.1 6))), (0, .ref (ad 5)), (1, .int y1)] := hl
      refine lv_aload_n hx hb d_Log_openSegment_22 rfl (lv_at hl 1 rfl) ?_
      refine gF_log_free X hP d_Log_openSegment_23 ?_
      refine lv_iload_n hx hb d_Log_openSegment_26 rfl (lv_at hl 0 rfl) ?_
      obtain ⟨v1, e1, h⟩ := bd_some h
      refine rF_12 X hP e1 d_Log_openSegment_27 ?_
      refine lv_if_eq (tgt := 58) hx hb d_Log_openSegment_28 (by decide) (fun hc => ?_) (fun hc => ?_)
      · have h := if_t hc h
        refine lv_iinc (k := 2) (v := (y1 + (1 : Int32))) hx hb d_Log_openSegment_58 hl rfl (oi_1 _) (by decide) rfl (fun ls hl => ?_)
        have hl : lv_has ls 3 [(1, .int (y1 + (1 : Int32))), (2, .int (((g.1 10) + y1) - ((g.1 10) + y1) / (g.1 6) * (g.1 6))), (0, .ref (ad 5))] := hl
        refine lv_goto (tgt := 2) hx hb d_Log_openSegment_61 (by decide) ?_
        exact ih _ _ _ _ _ hP hD hS (lv_sub hl [2, 0] rfl) h
      · have h := if_f hc h
        refine lv_aload_n hx hb d_Log_openSegment_31 rfl (lv_at hl 1 rfl) ?_
        refine gF_log_free X hP d_Log_openSegment_32 ?_
        refine lv_iload_n hx hb d_Log_openSegment_35 rfl (lv_at hl 0 rfl) ?_
        refine lv_iconst (v := 0) hx hb d_Log_openSegment_36 (by decide) ?_
        obtain ⟨g2, e1, h⟩ := bd_some h
        refine sF_12 X hP hD hS e1 d_Log_openSegment_37 (fun H locs hP hD hS => ?_)
        refine lv_aload_n hx hb d_Log_openSegment_38 rfl (lv_at hl 1 rfl) ?_
        refine lv_dup hx hb d_Log_openSegment_39 rfl ?_
        refine gF_log_freeSegments X hP d_Log_openSegment_40 ?_
        refine lv_iconst (v := 1) hx hb d_Log_openSegment_43 (by decide) ?_
        refine lv_isub hx hb d_Log_openSegment_44 ?_
        obtain ⟨g3, e1, h⟩ := nx_some h
        refine uF_log_freeSegments X hP hD hS e1 d_Log_openSegment_45 (fun H locs hP hD hS => ?_)
        refine lv_aload_n hx hb d_Log_openSegment_48 rfl (lv_at hl 1 rfl) ?_
        refine lv_iload_n hx hb d_Log_openSegment_49 rfl (lv_at hl 0 rfl) ?_
        obtain ⟨g4, e1, h⟩ := nx_some h
        refine uF_log_lastOpened X hP hD hS e1 d_Log_openSegment_50 (fun H locs hP hD hS => ?_)
        refine lv_iload_n hx hb d_Log_openSegment_53 rfl (lv_at hl 0 rfl) ?_
        obtain ⟨v5, e1, h⟩ := bd_some h
        refine fx_i X (fx_runN X (m_FF_firstOf e1 _) (As := [.int (((g.1 10) + y1) - ((g.1 10) + y1) / (g.1 6) * (g.1 6))]) hP hD kn_Log_78 ⟨Nat.le_of_ble_eq_true rfl, Nat.le_of_ble_eq_true rfl⟩ rfl hl.1 rfl (Nat.le_of_ble_eq_true rfl) d_Log_openSegment_54) hD hS (fun H locs hP hD hS => ?_)
        cases h
        exact fx_iret X hP hD hS d_Log_openSegment_57
set_option maxHeartbeats 4000000 in
set_option maxRecDepth 100000 in
theorem m_Log_openSegment {l : Launch} {D : va_G} {ad : Nat → Nat} {ca : Nat → ClassId} {FU : Nat} {g : St} {q : Int32 × St} (h : Log_openSegment FU  g = some q) : CI l ⟨"FlashFiles$Log", "openSegment", "()I"⟩ prog_7_method_24_code 3 2 (some .int) D (tyF ca) (wF ad ca g) [.ref (ad 5)] q.1 (wF ad ca q.2) := by
  intro sz
  refine Met.fx (Qc := fun A => fxQi D (tyF ca) A (wF ad ca q.2) q.1) (by decide) (Nat.le_of_ble_eq_true rfl) ?_
  intro p e s m below meth c A ls X hP hD hl
  have hl : lv_has ls 3 [(0, .ref (ad 5))] := hl
  have hS : va_S A s.heap s.heap [] := va_S.rf
  have hx := X.1
  have hb := X.2.1
  unfold Log_openSegment at h
  refine lv_iconst (v := 1) hx hb d_Log_openSegment_0 (by decide) ?_
  refine lv_istore_n hx hb d_Log_openSegment_1 rfl hl (by decide) rfl (fun ls hl => ?_)
  have hl : lv_has ls 3 [(1, .int (1 : Int32)), (0, .ref (ad 5))] := hl
  exact v_Log_openSegment_2 X  _ _ _ _ _ _ hP hD hS (lv_sub hl [1, 0] rfl) h
theorem d_Log_openEnds_0 : decode prog_7_method_17_code 0 = .ok (.aload_n 0, 1) := by decide +kernel
theorem d_Log_openEnds_1 : decode prog_7_method_17_code 1 = .ok (.aload_n 0, 1) := by decide +kernel
theorem d_Log_openEnds_2 : decode prog_7_method_17_code 2 = .ok (.invokevirtual 94, 3) := by decide +kernel
theorem d_Log_openEnds_5 : decode prog_7_method_17_code 5 = .ok (.putfield 46, 3) := by decide +kernel
theorem d_Log_openEnds_8 : decode prog_7_method_17_code 8 = .ok (.aload_n 0, 1) := by decide +kernel
theorem d_Log_openEnds_9 : decode prog_7_method_17_code 9 = .ok (.aload_n 0, 1) := by decide +kernel
theorem d_Log_openEnds_10 : decode prog_7_method_17_code 10 = .ok (.invokevirtual 94, 3) := by decide +kernel
theorem d_Log_openEnds_13 : decode prog_7_method_17_code 13 = .ok (.putfield 49, 3) := by decide +kernel
theorem d_Log_openEnds_16 : decode prog_7_method_17_code 16 = .ok (.return_, 1) := by decide +kernel
set_option maxHeartbeats 4000000 in
set_option maxRecDepth 100000 in
theorem m_Log_openEnds {l : Launch} {D : va_G} {ad : Nat → Nat} {ca : Nat → ClassId} {FU : Nat} {g : St} {q : St} (h : Log_openEnds FU  g = some q) : CV l ⟨"FlashFiles$Log", "openEnds", "()V"⟩ prog_7_method_17_code 1 3 D (tyF ca) (wF ad ca g) [.ref (ad 5)] (wF ad ca q) := by
  intro sz
  refine Met.fx (Qc := fun A => fxQv D (tyF ca) A (wF ad ca q)) (by decide) (Nat.le_of_ble_eq_true rfl) ?_
  intro p e s m below meth c A ls X hP hD hl
  have hl : lv_has ls 1 [(0, .ref (ad 5))] := hl
  have hS : va_S A s.heap s.heap [] := va_S.rf
  have hx := X.1
  have hb := X.2.1
  unfold Log_openEnds at h
  refine lv_aload_n hx hb d_Log_openEnds_0 rfl (lv_at hl 0 rfl) ?_
  refine lv_aload_n hx hb d_Log_openEnds_1 rfl (lv_at hl 0 rfl) ?_
  obtain ⟨p1, e1, h⟩ := bd_some h
  refine fx_i X (fx_runV (As := []) X (m_Log_openSegment e1 _) hP hD kv_Log_94 ⟨Nat.le_of_ble_eq_true rfl, Nat.le_of_ble_eq_true rfl⟩ 5 rfl rfl rfl hl.1 rfl (Nat.le_of_ble_eq_true rfl) d_Log_openEnds_2) hD hS (fun H locs hP hD hS => ?_)
  obtain ⟨g2, e1, h⟩ := nx_some h
  refine uF_log_nodeEnd X hP hD hS e1 d_Log_openEnds_5 (fun H locs hP hD hS => ?_)
  refine lv_aload_n hx hb d_Log_openEnds_8 rfl (lv_at hl 0 rfl) ?_
  refine lv_aload_n hx hb d_Log_openEnds_9 rfl (lv_at hl 0 rfl) ?_
  obtain ⟨p3, e1, h⟩ := bd_some h
  refine fx_i X (fx_runV (As := []) X (m_Log_openSegment e1 _) hP hD kv_Log_94 ⟨Nat.le_of_ble_eq_true rfl, Nat.le_of_ble_eq_true rfl⟩ 5 rfl rfl rfl hl.1 rfl (Nat.le_of_ble_eq_true rfl) d_Log_openEnds_10) hD hS (fun H locs hP hD hS => ?_)
  obtain ⟨g4, e1, h⟩ := nx_some h
  refine uF_log_dataEnd X hP hD hS e1 d_Log_openEnds_13 (fun H locs hP hD hS => ?_)
  cases h
  exact fx_vret X hP hD hS d_Log_openEnds_16
theorem d_Log_claim_0 : decode prog_7_method_18_code 0 = .ok (.iload_n 1, 1) := by decide +kernel
theorem d_Log_claim_1 : decode prog_7_method_18_code 1 = .ok (.invokestatic 64, 3) := by decide +kernel
theorem d_Log_claim_4 : decode prog_7_method_18_code 4 = .ok (.istore_n 3, 1) := by decide +kernel
theorem d_Log_claim_5 : decode prog_7_method_18_code 5 = .ok (.iload_n 3, 1) := by decide +kernel
theorem d_Log_claim_6 : decode prog_7_method_18_code 6 = .ok (.ifCond .ge 4, 3) := by decide +kernel
theorem d_Log_claim_9 : decode prog_7_method_18_code 9 = .ok (.return_, 1) := by decide +kernel
theorem d_Log_claim_10 : decode prog_7_method_18_code 10 = .ok (.aload_n 0, 1) := by decide +kernel
theorem d_Log_claim_11 : decode prog_7_method_18_code 11 = .ok (.getfield 19, 3) := by decide +kernel
theorem d_Log_claim_14 : decode prog_7_method_18_code 14 = .ok (.iload_n 1, 1) := by decide +kernel
theorem d_Log_claim_15 : decode prog_7_method_18_code 15 = .ok (.iload_n 2, 1) := by decide +kernel
theorem d_Log_claim_16 : decode prog_7_method_18_code 16 = .ok (.iastore, 1) := by decide +kernel
theorem d_Log_claim_17 : decode prog_7_method_18_code 17 = .ok (.iload_n 2, 1) := by decide +kernel
theorem d_Log_claim_18 : decode prog_7_method_18_code 18 = .ok (.iconst 1, 1) := by decide +kernel
theorem d_Log_claim_19 : decode prog_7_method_18_code 19 = .ok (.if_icmp .ne 16, 3) := by decide +kernel
theorem d_Log_claim_22 : decode prog_7_method_18_code 22 = .ok (.aload_n 0, 1) := by decide +kernel
theorem d_Log_claim_23 : decode prog_7_method_18_code 23 = .ok (.getfield 23, 3) := by decide +kernel
theorem d_Log_claim_26 : decode prog_7_method_18_code 26 = .ok (.iload_n 3, 1) := by decide +kernel
theorem d_Log_claim_27 : decode prog_7_method_18_code 27 = .ok (.dup2, 1) := by decide +kernel
theorem d_Log_claim_28 : decode prog_7_method_18_code 28 = .ok (.iaload, 1) := by decide +kernel
theorem d_Log_claim_29 : decode prog_7_method_18_code 29 = .ok (.iconst 1, 1) := by decide +kernel
theorem d_Log_claim_30 : decode prog_7_method_18_code 30 = .ok (.iadd, 1) := by decide +kernel
theorem d_Log_claim_31 : decode prog_7_method_18_code 31 = .ok (.iastore, 1) := by decide +kernel
theorem d_Log_claim_32 : decode prog_7_method_18_code 32 = .ok (.goto 13, 3) := by decide +kernel
theorem d_Log_claim_35 : decode prog_7_method_18_code 35 = .ok (.aload_n 0, 1) := by decide +kernel
theorem d_Log_claim_36 : decode prog_7_method_18_code 36 = .ok (.getfield 26, 3) := by decide +kernel
theorem d_Log_claim_39 : decode prog_7_method_18_code 39 = .ok (.iload_n 3, 1) := by decide +kernel
theorem d_Log_claim_40 : decode prog_7_method_18_code 40 = .ok (.dup2, 1) := by decide +kernel
theorem d_Log_claim_41 : decode prog_7_method_18_code 41 = .ok (.iaload, 1) := by decide +kernel
theorem d_Log_claim_42 : decode prog_7_method_18_code 42 = .ok (.iconst 1, 1) := by decide +kernel
theorem d_Log_claim_43 : decode prog_7_method_18_code 43 = .ok (.iadd, 1) := by decide +kernel
theorem d_Log_claim_44 : decode prog_7_method_18_code 44 = .ok (.iastore, 1) := by decide +kernel
theorem d_Log_claim_45 : decode prog_7_method_18_code 45 = .ok (.return_, 1) := by decide +kernel
set_option maxHeartbeats 4000000 in
set_option maxRecDepth 100000 in
theorem m_Log_claim {l : Launch} {D : va_G} {ad : Nat → Nat} {ca : Nat → ClassId} {FU : Nat} {x1 : Int32} {x2 : Int32} {g : St} {q : St} (h : Log_claim FU x1 x2 g = some q) : CV l ⟨"FlashFiles$Log", "claim", "(II)V"⟩ prog_7_method_18_code 4 2 D (tyF ca) (wF ad ca g) [.ref (ad 5), .int x1, .int x2] (wF ad ca q) := by
  intro sz
  refine Met.fx (Qc := fun A => fxQv D (tyF ca) A (wF ad ca q)) (by decide) (Nat.le_of_ble_eq_true rfl) ?_
  intro p e s m below meth c A ls X hP hD hl
  have hl : lv_has ls 4 [(0, .ref (ad 5)), (1, .int x1), (2, .int x2)] := hl
  have hS : va_S A s.heap s.heap [] := va_S.rf
  have hx := X.1
  have hb := X.2.1
  unfold Log_claim at h
  refine lv_iload_n hx hb d_Log_claim_0 rfl (lv_at hl 1 rfl) ?_
  obtain ⟨v1, e1, h⟩ := bd_some h
  refine fx_i X (fx_runN X (m_FF_segmentOf e1 _) (As := [.int x1]) hP hD kn_Log_64 ⟨Nat.le_of_ble_eq_true rfl, Nat.le_of_ble_eq_true rfl⟩ rfl hl.1 rfl (Nat.le_of_ble_eq_true rfl) d_Log_claim_1) hD hS (fun H locs hP hD hS => ?_)
  refine lv_istore_n hx hb d_Log_claim_4 rfl hl (by decide) rfl (fun ls hl => ?_)
  have hl : lv_has ls 4 [(3, .int v1), (0, .ref (ad 5)), (1, .int x1), (2, .int x2)] := hl
  refine lv_iload_n hx hb d_Log_claim_5 rfl (lv_at hl 0 rfl) ?_
  refine lv_if_ge (tgt := 10) hx hb d_Log_claim_6 (by decide) (fun hc => ?_) (fun hc => ?_)
  · have h := if_t hc h
    refine lv_aload_n hx hb d_Log_claim_10 rfl (lv_at hl 1 rfl) ?_
    refine gF_log_use X hP d_Log_claim_11 ?_
    refine lv_iload_n hx hb d_Log_claim_14 rfl (lv_at hl 2 rfl) ?_
    refine lv_iload_n hx hb d_Log_claim_15 rfl (lv_at hl 3 rfl) ?_
    obtain ⟨g2, e1, h⟩ := bd_some h
    refine sF_9 X hP hD hS e1 d_Log_claim_16 (fun H locs hP hD hS => ?_)
    refine lv_iload_n hx hb d_Log_claim_17 rfl (lv_at hl 3 rfl) ?_
    refine lv_iconst (v := 1) hx hb d_Log_claim_18 (by decide) ?_
    refine lv_icmp_ne (tgt := 35) hx hb d_Log_claim_19 (by decide) (fun hc => ?_) (fun hc => ?_)
    · have h := if_f hc h
      refine lv_aload_n hx hb d_Log_claim_35 rfl (lv_at hl 1 rfl) ?_
      refine gF_log_data X hP d_Log_claim_36 ?_
      refine lv_iload_n hx hb d_Log_claim_39 rfl (lv_at hl 0 rfl) ?_
      refine lv_dup2_11 hx hb d_Log_claim_40 rfl rfl ?_
      obtain ⟨v3, e1, h⟩ := bd_some h
      refine rF_11 X hP e1 d_Log_claim_41 ?_
      refine lv_iconst (v := 1) hx hb d_Log_claim_42 (by decide) ?_
      refine lv_iadd hx hb d_Log_claim_43 ?_
      obtain ⟨g4, e1, h⟩ := bd_some h
      refine sF_11 X hP hD hS e1 d_Log_claim_44 (fun H locs hP hD hS => ?_)
      cases h
      exact fx_vret X hP hD hS d_Log_claim_45
    · have h := if_t hc h
      refine lv_aload_n hx hb d_Log_claim_22 rfl (lv_at hl 1 rfl) ?_
      refine gF_log_nodes X hP d_Log_claim_23 ?_
      refine lv_iload_n hx hb d_Log_claim_26 rfl (lv_at hl 0 rfl) ?_
      refine lv_dup2_11 hx hb d_Log_claim_27 rfl rfl ?_
      obtain ⟨v5, e1, h⟩ := bd_some h
      refine rF_10 X hP e1 d_Log_claim_28 ?_
      refine lv_iconst (v := 1) hx hb d_Log_claim_29 (by decide) ?_
      refine lv_iadd hx hb d_Log_claim_30 ?_
      obtain ⟨g6, e1, h⟩ := bd_some h
      refine sF_10 X hP hD hS e1 d_Log_claim_31 (fun H locs hP hD hS => ?_)
      refine lv_goto (tgt := 45) hx hb d_Log_claim_32 (by decide) ?_
      cases h
      exact fx_vret X hP hD hS d_Log_claim_45
  · have h := if_f hc h
    cases h
    exact fx_vret X hP hD hS d_Log_claim_9
theorem d_Log_drop_0 : decode prog_7_method_19_code 0 = .ok (.iload_n 1, 1) := by decide +kernel
theorem d_Log_drop_1 : decode prog_7_method_19_code 1 = .ok (.invokestatic 64, 3) := by decide +kernel
theorem d_Log_drop_4 : decode prog_7_method_19_code 4 = .ok (.istore_n 2, 1) := by decide +kernel
theorem d_Log_drop_5 : decode prog_7_method_19_code 5 = .ok (.iload_n 2, 1) := by decide +kernel
theorem d_Log_drop_6 : decode prog_7_method_19_code 6 = .ok (.ifCond .lt 12, 3) := by decide +kernel
theorem d_Log_drop_9 : decode prog_7_method_19_code 9 = .ok (.aload_n 0, 1) := by decide +kernel
theorem d_Log_drop_10 : decode prog_7_method_19_code 10 = .ok (.getfield 19, 3) := by decide +kernel
theorem d_Log_drop_13 : decode prog_7_method_19_code 13 = .ok (.iload_n 1, 1) := by decide +kernel
theorem d_Log_drop_14 : decode prog_7_method_19_code 14 = .ok (.iaload, 1) := by decide +kernel
theorem d_Log_drop_15 : decode prog_7_method_19_code 15 = .ok (.ifCond .ne 4, 3) := by decide +kernel
theorem d_Log_drop_18 : decode prog_7_method_19_code 18 = .ok (.return_, 1) := by decide +kernel
theorem d_Log_drop_19 : decode prog_7_method_19_code 19 = .ok (.aload_n 0, 1) := by decide +kernel
theorem d_Log_drop_20 : decode prog_7_method_19_code 20 = .ok (.getfield 19, 3) := by decide +kernel
theorem d_Log_drop_23 : decode prog_7_method_19_code 23 = .ok (.iload_n 1, 1) := by decide +kernel
theorem d_Log_drop_24 : decode prog_7_method_19_code 24 = .ok (.iaload, 1) := by decide +kernel
theorem d_Log_drop_25 : decode prog_7_method_19_code 25 = .ok (.iconst 1, 1) := by decide +kernel
theorem d_Log_drop_26 : decode prog_7_method_19_code 26 = .ok (.if_icmp .ne 16, 3) := by decide +kernel
theorem d_Log_drop_29 : decode prog_7_method_19_code 29 = .ok (.aload_n 0, 1) := by decide +kernel
theorem d_Log_drop_30 : decode prog_7_method_19_code 30 = .ok (.getfield 23, 3) := by decide +kernel
theorem d_Log_drop_33 : decode prog_7_method_19_code 33 = .ok (.iload_n 2, 1) := by decide +kernel
theorem d_Log_drop_34 : decode prog_7_method_19_code 34 = .ok (.dup2, 1) := by decide +kernel
theorem d_Log_drop_35 : decode prog_7_method_19_code 35 = .ok (.iaload, 1) := by decide +kernel
theorem d_Log_drop_36 : decode prog_7_method_19_code 36 = .ok (.iconst 1, 1) := by decide +kernel
theorem d_Log_drop_37 : decode prog_7_method_19_code 37 = .ok (.isub, 1) := by decide +kernel
theorem d_Log_drop_38 : decode prog_7_method_19_code 38 = .ok (.iastore, 1) := by decide +kernel
theorem d_Log_drop_39 : decode prog_7_method_19_code 39 = .ok (.goto 13, 3) := by decide +kernel
theorem d_Log_drop_42 : decode prog_7_method_19_code 42 = .ok (.aload_n 0, 1) := by decide +kernel
theorem d_Log_drop_43 : decode prog_7_method_19_code 43 = .ok (.getfield 26, 3) := by decide +kernel
theorem d_Log_drop_46 : decode prog_7_method_19_code 46 = .ok (.iload_n 2, 1) := by decide +kernel
theorem d_Log_drop_47 : decode prog_7_method_19_code 47 = .ok (.dup2, 1) := by decide +kernel
theorem d_Log_drop_48 : decode prog_7_method_19_code 48 = .ok (.iaload, 1) := by decide +kernel
theorem d_Log_drop_49 : decode prog_7_method_19_code 49 = .ok (.iconst 1, 1) := by decide +kernel
theorem d_Log_drop_50 : decode prog_7_method_19_code 50 = .ok (.isub, 1) := by decide +kernel
theorem d_Log_drop_51 : decode prog_7_method_19_code 51 = .ok (.iastore, 1) := by decide +kernel
theorem d_Log_drop_52 : decode prog_7_method_19_code 52 = .ok (.aload_n 0, 1) := by decide +kernel
theorem d_Log_drop_53 : decode prog_7_method_19_code 53 = .ok (.getfield 19, 3) := by decide +kernel
theorem d_Log_drop_56 : decode prog_7_method_19_code 56 = .ok (.iload_n 1, 1) := by decide +kernel
theorem d_Log_drop_57 : decode prog_7_method_19_code 57 = .ok (.iconst 0, 1) := by decide +kernel
theorem d_Log_drop_58 : decode prog_7_method_19_code 58 = .ok (.iastore, 1) := by decide +kernel
theorem d_Log_drop_59 : decode prog_7_method_19_code 59 = .ok (.return_, 1) := by decide +kernel
set_option maxHeartbeats 4000000 in
set_option maxRecDepth 100000 in
theorem m_Log_drop {l : Launch} {D : va_G} {ad : Nat → Nat} {ca : Nat → ClassId} {FU : Nat} {x1 : Int32} {g : St} {q : St} (h : Log_drop FU x1 g = some q) : CV l ⟨"FlashFiles$Log", "drop", "(I)V"⟩ prog_7_method_19_code 3 2 D (tyF ca) (wF ad ca g) [.ref (ad 5), .int x1] (wF ad ca q) := by
  intro sz
  refine Met.fx (Qc := fun A => fxQv D (tyF ca) A (wF ad ca q)) (by decide) (Nat.le_of_ble_eq_true rfl) ?_
  intro p e s m below meth c A ls X hP hD hl
  have hl : lv_has ls 3 [(0, .ref (ad 5)), (1, .int x1)] := hl
  have hS : va_S A s.heap s.heap [] := va_S.rf
  have hx := X.1
  have hb := X.2.1
  unfold Log_drop at h
  refine lv_iload_n hx hb d_Log_drop_0 rfl (lv_at hl 1 rfl) ?_
  obtain ⟨v1, e1, h⟩ := bd_some h
  refine fx_i X (fx_runN X (m_FF_segmentOf e1 _) (As := [.int x1]) hP hD kn_Log_64 ⟨Nat.le_of_ble_eq_true rfl, Nat.le_of_ble_eq_true rfl⟩ rfl hl.1 rfl (Nat.le_of_ble_eq_true rfl) d_Log_drop_1) hD hS (fun H locs hP hD hS => ?_)
  refine lv_istore_n hx hb d_Log_drop_4 rfl hl (by decide) rfl (fun ls hl => ?_)
  have hl : lv_has ls 3 [(2, .int v1), (0, .ref (ad 5)), (1, .int x1)] := hl
  refine lv_iload_n hx hb d_Log_drop_5 rfl (lv_at hl 0 rfl) ?_
  refine lv_if_lt (tgt := 18) hx hb d_Log_drop_6 (by decide) (fun hc => ?_) (fun hc => ?_)
  · have h := if_t hc h
    cases h
    exact fx_vret X hP hD hS d_Log_drop_18
  · have h := if_f hc h
    refine lv_aload_n hx hb d_Log_drop_9 rfl (lv_at hl 1 rfl) ?_
    refine gF_log_use X hP d_Log_drop_10 ?_
    refine lv_iload_n hx hb d_Log_drop_13 rfl (lv_at hl 2 rfl) ?_
    obtain ⟨v2, e1, h⟩ := bd_some h
    refine rF_9 X hP e1 d_Log_drop_14 ?_
    refine lv_if_ne (tgt := 19) hx hb d_Log_drop_15 (by decide) (fun hc => ?_) (fun hc => ?_)
    · have h := if_f hc h
      refine lv_aload_n hx hb d_Log_drop_19 rfl (lv_at hl 1 rfl) ?_
      refine gF_log_use X hP d_Log_drop_20 ?_
      refine lv_iload_n hx hb d_Log_drop_23 rfl (lv_at hl 2 rfl) ?_
      obtain ⟨v3, e1, h⟩ := bd_some h
      refine rF_9 X hP e1 d_Log_drop_24 ?_
      refine lv_iconst (v := 1) hx hb d_Log_drop_25 (by decide) ?_
      refine lv_icmp_ne (tgt := 42) hx hb d_Log_drop_26 (by decide) (fun hc => ?_) (fun hc => ?_)
      · have h := if_f hc h
        refine lv_aload_n hx hb d_Log_drop_42 rfl (lv_at hl 1 rfl) ?_
        refine gF_log_data X hP d_Log_drop_43 ?_
        refine lv_iload_n hx hb d_Log_drop_46 rfl (lv_at hl 0 rfl) ?_
        refine lv_dup2_11 hx hb d_Log_drop_47 rfl rfl ?_
        obtain ⟨v4, e1, h⟩ := bd_some h
        refine rF_11 X hP e1 d_Log_drop_48 ?_
        refine lv_iconst (v := 1) hx hb d_Log_drop_49 (by decide) ?_
        refine lv_isub hx hb d_Log_drop_50 ?_
        obtain ⟨g5, e1, h⟩ := bd_some h
        refine sF_11 X hP hD hS e1 d_Log_drop_51 (fun H locs hP hD hS => ?_)
        refine lv_aload_n hx hb d_Log_drop_52 rfl (lv_at hl 1 rfl) ?_
        refine gF_log_use X hP d_Log_drop_53 ?_
        refine lv_iload_n hx hb d_Log_drop_56 rfl (lv_at hl 2 rfl) ?_
        refine lv_iconst (v := 0) hx hb d_Log_drop_57 (by decide) ?_
        obtain ⟨g6, e1, h⟩ := bd_some h
        refine sF_9 X hP hD hS e1 d_Log_drop_58 (fun H locs hP hD hS => ?_)
        cases h
        exact fx_vret X hP hD hS d_Log_drop_59
      · have h := if_t hc h
        refine lv_aload_n hx hb d_Log_drop_29 rfl (lv_at hl 1 rfl) ?_
        refine gF_log_nodes X hP d_Log_drop_30 ?_
        refine lv_iload_n hx hb d_Log_drop_33 rfl (lv_at hl 0 rfl) ?_
        refine lv_dup2_11 hx hb d_Log_drop_34 rfl rfl ?_
        obtain ⟨v7, e1, h⟩ := bd_some h
        refine rF_10 X hP e1 d_Log_drop_35 ?_
        refine lv_iconst (v := 1) hx hb d_Log_drop_36 (by decide) ?_
        refine lv_isub hx hb d_Log_drop_37 ?_
        obtain ⟨g8, e1, h⟩ := bd_some h
        refine sF_10 X hP hD hS e1 d_Log_drop_38 (fun H locs hP hD hS => ?_)
        refine lv_goto (tgt := 52) hx hb d_Log_drop_39 (by decide) ?_
        refine lv_aload_n hx hb d_Log_drop_52 rfl (lv_at hl 1 rfl) ?_
        refine gF_log_use X hP d_Log_drop_53 ?_
        refine lv_iload_n hx hb d_Log_drop_56 rfl (lv_at hl 2 rfl) ?_
        refine lv_iconst (v := 0) hx hb d_Log_drop_57 (by decide) ?_
        obtain ⟨g9, e1, h⟩ := bd_some h
        refine sF_9 X hP hD hS e1 d_Log_drop_58 (fun H locs hP hD hS => ?_)
        cases h
        exact fx_vret X hP hD hS d_Log_drop_59
    · have h := if_t hc h
      cases h
      exact fx_vret X hP hD hS d_Log_drop_18
theorem d_Log_dropNode_0 : decode prog_7_method_20_code 0 = .ok (.aload_n 0, 1) := by decide +kernel
theorem d_Log_dropNode_1 : decode prog_7_method_20_code 1 = .ok (.aload_n 0, 1) := by decide +kernel
theorem d_Log_dropNode_2 : decode prog_7_method_20_code 2 = .ok (.getfield 15, 3) := by decide +kernel
theorem d_Log_dropNode_5 : decode prog_7_method_20_code 5 = .ok (.iload_n 1, 1) := by decide +kernel
theorem d_Log_dropNode_6 : decode prog_7_method_20_code 6 = .ok (.invokevirtual 98, 3) := by decide +kernel
theorem d_Log_dropNode_9 : decode prog_7_method_20_code 9 = .ok (.invokevirtual 103, 3) := by decide +kernel
theorem d_Log_dropNode_12 : decode prog_7_method_20_code 12 = .ok (.aload_n 0, 1) := by decide +kernel
theorem d_Log_dropNode_13 : decode prog_7_method_20_code 13 = .ok (.getfield 15, 3) := by decide +kernel
theorem d_Log_dropNode_16 : decode prog_7_method_20_code 16 = .ok (.iload_n 1, 1) := by decide +kernel
theorem d_Log_dropNode_17 : decode prog_7_method_20_code 17 = .ok (.iconst 0, 1) := by decide +kernel
theorem d_Log_dropNode_18 : decode prog_7_method_20_code 18 = .ok (.invokevirtual 106, 3) := by decide +kernel
theorem d_Log_dropNode_21 : decode prog_7_method_20_code 21 = .ok (.return_, 1) := by decide +kernel
set_option maxHeartbeats 4000000 in
set_option maxRecDepth 100000 in
theorem m_Log_dropNode {l : Launch} {D : va_G} {ad : Nat → Nat} {ca : Nat → ClassId} {FU : Nat} {x1 : Int32} {g : St} {q : St} (h : Log_dropNode FU x1 g = some q) : CV l ⟨"FlashFiles$Log", "dropNode", "(I)V"⟩ prog_7_method_20_code 2 3 D (tyF ca) (wF ad ca g) [.ref (ad 5), .int x1] (wF ad ca q) := by
  intro sz
  refine Met.fx (Qc := fun A => fxQv D (tyF ca) A (wF ad ca q)) (by decide) (Nat.le_of_ble_eq_true rfl) ?_
  intro p e s m below meth c A ls X hP hD hl
  have hl : lv_has ls 2 [(0, .ref (ad 5)), (1, .int x1)] := hl
  have hS : va_S A s.heap s.heap [] := va_S.rf
  have hx := X.1
  have hb := X.2.1
  unfold Log_dropNode at h
  refine lv_aload_n hx hb d_Log_dropNode_0 rfl (lv_at hl 0 rfl) ?_
  refine lv_aload_n hx hb d_Log_dropNode_1 rfl (lv_at hl 0 rfl) ?_
  refine gF_log_table X hP d_Log_dropNode_2 ?_
  refine lv_iload_n hx hb d_Log_dropNode_5 rfl (lv_at hl 1 rfl) ?_
  obtain ⟨v1, e1, h⟩ := bd_some h
  refine fx_i X (fx_runV (As := [.int x1]) X (m_Tab_placeOf e1 _) hP hD kv_Log_98 ⟨Nat.le_of_ble_eq_true rfl, Nat.le_of_ble_eq_true rfl⟩ 4 rfl rfl rfl hl.1 rfl (Nat.le_of_ble_eq_true rfl) d_Log_dropNode_6) hD hS (fun H locs hP hD hS => ?_)
  obtain ⟨p2, e1, h⟩ := bd_some h
  refine fx_v X (fx_runV (As := [.int v1]) X (m_Log_drop e1 _) hP hD kv_Log_103 ⟨Nat.le_of_ble_eq_true rfl, Nat.le_of_ble_eq_true rfl⟩ 5 rfl rfl rfl hl.1 rfl (Nat.le_of_ble_eq_true rfl) d_Log_dropNode_9) hD hS (fun H locs hP hD hS => ?_)
  refine lv_aload_n hx hb d_Log_dropNode_12 rfl (lv_at hl 0 rfl) ?_
  refine gF_log_table X hP d_Log_dropNode_13 ?_
  refine lv_iload_n hx hb d_Log_dropNode_16 rfl (lv_at hl 1 rfl) ?_
  refine lv_iconst (v := 0) hx hb d_Log_dropNode_17 (by decide) ?_
  obtain ⟨p3, e1, h⟩ := bd_some h
  refine fx_v X (fx_runV (As := [.int x1, .int (0 : Int32)]) X (m_Tab_setPlace e1 _) hP hD kv_Log_106 ⟨Nat.le_of_ble_eq_true rfl, Nat.le_of_ble_eq_true rfl⟩ 4 rfl rfl rfl hl.1 rfl (Nat.le_of_ble_eq_true rfl) d_Log_dropNode_18) hD hS (fun H locs hP hD hS => ?_)
  cases h
  exact fx_vret X hP hD hS d_Log_dropNode_21
theorem d_Log_isLast_0 : decode prog_7_method_23_code 0 = .ok (.iload_n 1, 1) := by decide +kernel
theorem d_Log_isLast_1 : decode prog_7_method_23_code 1 = .ok (.bipush 69, 2) := by decide +kernel
theorem d_Log_isLast_3 : decode prog_7_method_23_code 3 = .ok (.isub, 1) := by decide +kernel
theorem d_Log_isLast_4 : decode prog_7_method_23_code 4 = .ok (.bipush 16, 2) := by decide +kernel
theorem d_Log_isLast_6 : decode prog_7_method_23_code 6 = .ok (.irem, 1) := by decide +kernel
theorem d_Log_isLast_7 : decode prog_7_method_23_code 7 = .ok (.bipush 15, 2) := by decide +kernel
theorem d_Log_isLast_9 : decode prog_7_method_23_code 9 = .ok (.if_icmp .ne 7, 3) := by decide +kernel
theorem d_Log_isLast_12 : decode prog_7_method_23_code 12 = .ok (.iconst 1, 1) := by decide +kernel
theorem d_Log_isLast_13 : decode prog_7_method_23_code 13 = .ok (.goto 4, 3) := by decide +kernel
theorem d_Log_isLast_16 : decode prog_7_method_23_code 16 = .ok (.iconst 0, 1) := by decide +kernel
theorem d_Log_isLast_17 : decode prog_7_method_23_code 17 = .ok (.ireturn, 1) := by decide +kernel
set_option maxHeartbeats 4000000 in
set_option maxRecDepth 100000 in
theorem m_Log_isLast {l : Launch} {D : va_G} {ad : Nat → Nat} {ca : Nat → ClassId} {FU : Nat} {x1 : Int32} {g : St} {q : Int32} (h : Log_isLast FU x1 g = some q) : CI l ⟨"FlashFiles$Log", "isLast", "(I)Z"⟩ prog_7_method_23_code 2 1 (some .boolean) D (tyF ca) (wF ad ca g) [.ref (ad 5), .int x1] q (wF ad ca g) := by
  intro sz
  refine Met.fx (Qc := fun A => fxQi D (tyF ca) A (wF ad ca g) q) (by decide) (Nat.le_of_ble_eq_true rfl) ?_
  intro p e s m below meth c A ls X hP hD hl
  have hl : lv_has ls 2 [(0, .ref (ad 5)), (1, .int x1)] := hl
  have hS : va_S A s.heap s.heap [] := va_S.rf
  have hx := X.1
  have hb := X.2.1
  unfold Log_isLast at h
  refine lv_iload_n hx hb d_Log_isLast_0 rfl (lv_at hl 1 rfl) ?_
  refine lv_bipush (v := 69) hx hb d_Log_isLast_1 (by decide) ?_
  refine lv_isub hx hb d_Log_isLast_3 ?_
  refine lv_bipush (v := 16) hx hb d_Log_isLast_4 (by decide) ?_
  refine lv_irem hx hb d_Log_isLast_6 (by decide) ?_
  refine lv_bipush (v := 15) hx hb d_Log_isLast_7 (by decide) ?_
  refine lv_icmp_ne (tgt := 16) hx hb d_Log_isLast_9 (by decide) (fun hc => ?_) (fun hc => ?_)
  · have h := if_f hc h
    refine lv_iconst (v := 0) hx hb d_Log_isLast_16 (by decide) ?_
    cases h
    exact fx_zret X hP hD hS (Or.inl rfl) d_Log_isLast_17
  · have h := if_t hc h
    refine lv_iconst (v := 1) hx hb d_Log_isLast_12 (by decide) ?_
    refine lv_goto (tgt := 17) hx hb d_Log_isLast_13 (by decide) ?_
    cases h
    exact fx_zret X hP hD hS (Or.inr rfl) d_Log_isLast_17
theorem d_Log_putData_0 : decode prog_7_method_22_code 0 = .ok (.aload_n 0, 1) := by decide +kernel
theorem d_Log_putData_1 : decode prog_7_method_22_code 1 = .ok (.getfield 49, 3) := by decide +kernel
theorem d_Log_putData_4 : decode prog_7_method_22_code 4 = .ok (.istore_n 2, 1) := by decide +kernel
theorem d_Log_putData_5 : decode prog_7_method_22_code 5 = .ok (.aload_n 0, 1) := by decide +kernel
theorem d_Log_putData_6 : decode prog_7_method_22_code 6 = .ok (.aload_n 0, 1) := by decide +kernel
theorem d_Log_putData_7 : decode prog_7_method_22_code 7 = .ok (.iload_n 2, 1) := by decide +kernel
theorem d_Log_putData_8 : decode prog_7_method_22_code 8 = .ok (.invokevirtual 109, 3) := by decide +kernel
theorem d_Log_putData_11 : decode prog_7_method_22_code 11 = .ok (.ifCond .eq 10, 3) := by decide +kernel
theorem d_Log_putData_14 : decode prog_7_method_22_code 14 = .ok (.aload_n 0, 1) := by decide +kernel
theorem d_Log_putData_15 : decode prog_7_method_22_code 15 = .ok (.invokevirtual 94, 3) := by decide +kernel
theorem d_Log_putData_18 : decode prog_7_method_22_code 18 = .ok (.goto 6, 3) := by decide +kernel
theorem d_Log_putData_21 : decode prog_7_method_22_code 21 = .ok (.iload_n 2, 1) := by decide +kernel
theorem d_Log_putData_22 : decode prog_7_method_22_code 22 = .ok (.iconst 1, 1) := by decide +kernel
theorem d_Log_putData_23 : decode prog_7_method_22_code 23 = .ok (.iadd, 1) := by decide +kernel
theorem d_Log_putData_24 : decode prog_7_method_22_code 24 = .ok (.putfield 49, 3) := by decide +kernel
theorem d_Log_putData_27 : decode prog_7_method_22_code 27 = .ok (.aload_n 0, 1) := by decide +kernel
theorem d_Log_putData_28 : decode prog_7_method_22_code 28 = .ok (.getfield 9, 3) := by decide +kernel
theorem d_Log_putData_31 : decode prog_7_method_22_code 31 = .ok (.iload_n 2, 1) := by decide +kernel
theorem d_Log_putData_32 : decode prog_7_method_22_code 32 = .ok (.aload_n 1, 1) := by decide +kernel
theorem d_Log_putData_33 : decode prog_7_method_22_code 33 = .ok (.iconst 0, 1) := by decide +kernel
theorem d_Log_putData_34 : decode prog_7_method_22_code 34 = .ok (.invokevirtual 112, 3) := by decide +kernel
theorem d_Log_putData_37 : decode prog_7_method_22_code 37 = .ok (.aload_n 0, 1) := by decide +kernel
theorem d_Log_putData_38 : decode prog_7_method_22_code 38 = .ok (.iload_n 2, 1) := by decide +kernel
theorem d_Log_putData_39 : decode prog_7_method_22_code 39 = .ok (.iconst 2, 1) := by decide +kernel
theorem d_Log_putData_40 : decode prog_7_method_22_code 40 = .ok (.invokevirtual 116, 3) := by decide +kernel
theorem d_Log_putData_43 : decode prog_7_method_22_code 43 = .ok (.iload_n 2, 1) := by decide +kernel
theorem d_Log_putData_44 : decode prog_7_method_22_code 44 = .ok (.ireturn, 1) := by decide +kernel
set_option maxHeartbeats 4000000 in
set_option maxRecDepth 100000 in
theorem v_Log_putData_24_16 {p : Program} {l : Launch} {e : Env} {s : State} {m : MethodId} {args : Array Value} {below : List Frame} {meth : Method} {c : Code} {D : va_G} {ad : Nat → Nat} {ca : Nat → ClassId} {A : Nat → Prop} {FU : Nat} {q : Int32 × St} (X : FX p s m meth c prog_7_method_22_code 3 (some .int) "FlashFiles$Log" D (tyF ca) A) {y2 : Int32} {z0 : Int32} {g : St} {H : Heap} {locs : List Loc} {ls : Array Slot} (hP : va_P D cls (wF ad ca g) H) (hD : va_D A (wF ad ca g)) (hS : va_S A s.heap H locs) (hl : lv_has ls 3 [(0, .ref (ad 5)), (1, .ref (ad 27)), (2, .int y2)]) (h : Log_putData_b24 FU 16 y2 z0 g = some q) : W p l e (rmN 3) s m args below meth c H locs 0 0 (MQ below (fxQi D (tyF ca) A (wF ad ca q.2) q.1) args s 0 0 A) (F0 m 24 ls [.int z0, .ref (ad 5)]) := by
  have hx := X.1
  have hb := X.2.1
  unfold Log_putData_b24 at h
  obtain ⟨g1, e1, h⟩ := nx_some h
  refine uF_log_dataEnd X hP hD hS e1 d_Log_putData_24 (fun H locs hP hD hS => ?_)
  refine lv_aload_n hx hb d_Log_putData_27 rfl (lv_at hl 0 rfl) ?_
  refine gF_log_device X hP d_Log_putData_28 ?_
  refine lv_iload_n hx hb d_Log_putData_31 rfl (lv_at hl 2 rfl) ?_
  refine lv_aload_n hx hb d_Log_putData_32 rfl (lv_at hl 1 rfl) ?_
  refine lv_iconst (v := 0) hx hb d_Log_putData_33 (by decide) ?_
  obtain ⟨p2, e1, h⟩ := bd_some h
  refine fx_v X (fx_runV (As := [.int y2, .ref (ad 27), .int (0 : Int32)]) X (m_Dev_program_16 e1 _) hP hD kv_Log_112 ⟨Nat.le_of_ble_eq_true rfl, Nat.le_of_ble_eq_true rfl⟩ 3 rfl rfl rfl hl.1 rfl (Nat.le_of_ble_eq_true rfl) d_Log_putData_34) hD hS (fun H locs hP hD hS => ?_)
  refine lv_aload_n hx hb d_Log_putData_37 rfl (lv_at hl 0 rfl) ?_
  refine lv_iload_n hx hb d_Log_putData_38 rfl (lv_at hl 2 rfl) ?_
  refine lv_iconst (v := 2) hx hb d_Log_putData_39 (by decide) ?_
  obtain ⟨p3, e1, h⟩ := bd_some h
  refine fx_v X (fx_runV (As := [.int y2, .int (2 : Int32)]) X (m_Log_claim e1 _) hP hD kv_Log_116 ⟨Nat.le_of_ble_eq_true rfl, Nat.le_of_ble_eq_true rfl⟩ 5 rfl rfl rfl hl.1 rfl (Nat.le_of_ble_eq_true rfl) d_Log_putData_40) hD hS (fun H locs hP hD hS => ?_)
  refine lv_iload_n hx hb d_Log_putData_43 rfl (lv_at hl 2 rfl) ?_
  cases h
  exact fx_iret X hP hD hS d_Log_putData_44
set_option maxHeartbeats 4000000 in
set_option maxRecDepth 100000 in
theorem m_Log_putData_16 {l : Launch} {D : va_G} {ad : Nat → Nat} {ca : Nat → ClassId} {FU : Nat} {g : St} {q : Int32 × St} (h : Log_putData FU 16 g = some q) : CI l ⟨"FlashFiles$Log", "putData", "([I)I"⟩ prog_7_method_22_code 3 3 (some .int) D (tyF ca) (wF ad ca g) [.ref (ad 5), .ref (ad 27)] q.1 (wF ad ca q.2) := by
  intro sz
  refine Met.fx (Qc := fun A => fxQi D (tyF ca) A (wF ad ca q.2) q.1) (by decide) (Nat.le_of_ble_eq_true rfl) ?_
  intro p e s m below meth c A ls X hP hD hl
  have hl : lv_has ls 3 [(0, .ref (ad 5)), (1, .ref (ad 27))] := hl
  have hS : va_S A s.heap s.heap [] := va_S.rf
  have hx := X.1
  have hb := X.2.1
  unfold Log_putData at h
  refine lv_aload_n hx hb d_Log_putData_0 rfl (lv_at hl 0 rfl) ?_
  refine gF_log_dataEnd X hP d_Log_putData_1 ?_
  refine lv_istore_n hx hb d_Log_putData_4 rfl hl (by decide) rfl (fun ls hl => ?_)
  have hl : lv_has ls 3 [(2, .int (g.1 9)), (0, .ref (ad 5)), (1, .ref (ad 27))] := hl
  refine lv_aload_n hx hb d_Log_putData_5 rfl (lv_at hl 1 rfl) ?_
  refine lv_aload_n hx hb d_Log_putData_6 rfl (lv_at hl 1 rfl) ?_
  refine lv_iload_n hx hb d_Log_putData_7 rfl (lv_at hl 0 rfl) ?_
  obtain ⟨v4, e1, h⟩ := bd_some h
  refine fx_i X (fx_runV (As := [.int (g.1 9)]) X (m_Log_isLast e1 _) hP hD kv_Log_109 ⟨Nat.le_of_ble_eq_true rfl, Nat.le_of_ble_eq_true rfl⟩ 5 rfl rfl rfl hl.1 rfl (Nat.le_of_ble_eq_true rfl) d_Log_putData_8) hD hS (fun H locs hP hD hS => ?_)
  refine lv_if_eq (tgt := 21) hx hb d_Log_putData_11 (by decide) (fun hc => ?_) (fun hc => ?_)
  · have h := if_t hc h
    refine lv_iload_n hx hb d_Log_putData_21 rfl (lv_at hl 0 rfl) ?_
    refine lv_iconst (v := 1) hx hb d_Log_putData_22 (by decide) ?_
    refine lv_iadd hx hb d_Log_putData_23 ?_
    exact v_Log_putData_24_16 X  hP hD hS (lv_sub hl [1, 2, 0] rfl) h
  · have h := if_f hc h
    refine lv_aload_n hx hb d_Log_putData_14 rfl (lv_at hl 1 rfl) ?_
    obtain ⟨p5, e1, h⟩ := bd_some h
    refine fx_i X (fx_runV (As := []) X (m_Log_openSegment e1 _) hP hD kv_Log_94 ⟨Nat.le_of_ble_eq_true rfl, Nat.le_of_ble_eq_true rfl⟩ 5 rfl rfl rfl hl.1 rfl (Nat.le_of_ble_eq_true rfl) d_Log_putData_15) hD hS (fun H locs hP hD hS => ?_)
    refine lv_goto (tgt := 24) hx hb d_Log_putData_18 (by decide) ?_
    exact v_Log_putData_24_16 X  hP hD hS (lv_sub hl [1, 2, 0] rfl) h
theorem d_Log_putNode_0 : decode prog_7_method_21_code 0 = .ok (.aload_n 0, 1) := by decide +kernel
theorem d_Log_putNode_1 : decode prog_7_method_21_code 1 = .ok (.getfield 46, 3) := by decide +kernel
theorem d_Log_putNode_4 : decode prog_7_method_21_code 4 = .ok (.istore 4, 2) := by decide +kernel
theorem d_Log_putNode_6 : decode prog_7_method_21_code 6 = .ok (.aload_n 0, 1) := by decide +kernel
theorem d_Log_putNode_7 : decode prog_7_method_21_code 7 = .ok (.aload_n 0, 1) := by decide +kernel
theorem d_Log_putNode_8 : decode prog_7_method_21_code 8 = .ok (.iload 4, 2) := by decide +kernel
theorem d_Log_putNode_10 : decode prog_7_method_21_code 10 = .ok (.invokevirtual 109, 3) := by decide +kernel
theorem d_Log_putNode_13 : decode prog_7_method_21_code 13 = .ok (.ifCond .eq 10, 3) := by decide +kernel
theorem d_Log_putNode_16 : decode prog_7_method_21_code 16 = .ok (.aload_n 0, 1) := by decide +kernel
theorem d_Log_putNode_17 : decode prog_7_method_21_code 17 = .ok (.invokevirtual 94, 3) := by decide +kernel
theorem d_Log_putNode_20 : decode prog_7_method_21_code 20 = .ok (.goto 7, 3) := by decide +kernel
theorem d_Log_putNode_23 : decode prog_7_method_21_code 23 = .ok (.iload 4, 2) := by decide +kernel
theorem d_Log_putNode_25 : decode prog_7_method_21_code 25 = .ok (.iconst 1, 1) := by decide +kernel
theorem d_Log_putNode_26 : decode prog_7_method_21_code 26 = .ok (.iadd, 1) := by decide +kernel
theorem d_Log_putNode_27 : decode prog_7_method_21_code 27 = .ok (.putfield 46, 3) := by decide +kernel
theorem d_Log_putNode_30 : decode prog_7_method_21_code 30 = .ok (.aload_n 2, 1) := by decide +kernel
theorem d_Log_putNode_31 : decode prog_7_method_21_code 31 = .ok (.bipush 59, 2) := by decide +kernel
theorem d_Log_putNode_33 : decode prog_7_method_21_code 33 = .ok (.iload_n 3, 1) := by decide +kernel
theorem d_Log_putNode_34 : decode prog_7_method_21_code 34 = .ok (.iastore, 1) := by decide +kernel
theorem d_Log_putNode_35 : decode prog_7_method_21_code 35 = .ok (.aload_n 2, 1) := by decide +kernel
theorem d_Log_putNode_36 : decode prog_7_method_21_code 36 = .ok (.bipush 60, 2) := by decide +kernel
theorem d_Log_putNode_38 : decode prog_7_method_21_code 38 = .ok (.iload_n 1, 1) := by decide +kernel
theorem d_Log_putNode_39 : decode prog_7_method_21_code 39 = .ok (.iastore, 1) := by decide +kernel
theorem d_Log_putNode_40 : decode prog_7_method_21_code 40 = .ok (.aload_n 2, 1) := by decide +kernel
theorem d_Log_putNode_41 : decode prog_7_method_21_code 41 = .ok (.bipush 62, 2) := by decide +kernel
theorem d_Log_putNode_43 : decode prog_7_method_21_code 43 = .ok (.aload_n 0, 1) := by decide +kernel
theorem d_Log_putNode_44 : decode prog_7_method_21_code 44 = .ok (.getfield 55, 3) := by decide +kernel
theorem d_Log_putNode_47 : decode prog_7_method_21_code 47 = .ok (.iastore, 1) := by decide +kernel
theorem d_Log_putNode_48 : decode prog_7_method_21_code 48 = .ok (.aload_n 2, 1) := by decide +kernel
theorem d_Log_putNode_49 : decode prog_7_method_21_code 49 = .ok (.bipush 63, 2) := by decide +kernel
theorem d_Log_putNode_51 : decode prog_7_method_21_code 51 = .ok (.aload_n 0, 1) := by decide +kernel
theorem d_Log_putNode_52 : decode prog_7_method_21_code 52 = .ok (.getfield 46, 3) := by decide +kernel
theorem d_Log_putNode_55 : decode prog_7_method_21_code 55 = .ok (.iastore, 1) := by decide +kernel
theorem d_Log_putNode_56 : decode prog_7_method_21_code 56 = .ok (.aload_n 0, 1) := by decide +kernel
theorem d_Log_putNode_57 : decode prog_7_method_21_code 57 = .ok (.getfield 9, 3) := by decide +kernel
theorem d_Log_putNode_60 : decode prog_7_method_21_code 60 = .ok (.iload 4, 2) := by decide +kernel
theorem d_Log_putNode_62 : decode prog_7_method_21_code 62 = .ok (.aload_n 2, 1) := by decide +kernel
theorem d_Log_putNode_63 : decode prog_7_method_21_code 63 = .ok (.iconst 0, 1) := by decide +kernel
theorem d_Log_putNode_64 : decode prog_7_method_21_code 64 = .ok (.invokevirtual 112, 3) := by decide +kernel
theorem d_Log_putNode_67 : decode prog_7_method_21_code 67 = .ok (.aload_n 0, 1) := by decide +kernel
theorem d_Log_putNode_68 : decode prog_7_method_21_code 68 = .ok (.iload 4, 2) := by decide +kernel
theorem d_Log_putNode_70 : decode prog_7_method_21_code 70 = .ok (.iconst 1, 1) := by decide +kernel
theorem d_Log_putNode_71 : decode prog_7_method_21_code 71 = .ok (.invokevirtual 116, 3) := by decide +kernel
theorem d_Log_putNode_74 : decode prog_7_method_21_code 74 = .ok (.aload_n 0, 1) := by decide +kernel
theorem d_Log_putNode_75 : decode prog_7_method_21_code 75 = .ok (.aload_n 0, 1) := by decide +kernel
theorem d_Log_putNode_76 : decode prog_7_method_21_code 76 = .ok (.getfield 15, 3) := by decide +kernel
theorem d_Log_putNode_79 : decode prog_7_method_21_code 79 = .ok (.iload_n 1, 1) := by decide +kernel
theorem d_Log_putNode_80 : decode prog_7_method_21_code 80 = .ok (.invokevirtual 98, 3) := by decide +kernel
theorem d_Log_putNode_83 : decode prog_7_method_21_code 83 = .ok (.invokevirtual 103, 3) := by decide +kernel
theorem d_Log_putNode_86 : decode prog_7_method_21_code 86 = .ok (.aload_n 0, 1) := by decide +kernel
theorem d_Log_putNode_87 : decode prog_7_method_21_code 87 = .ok (.getfield 15, 3) := by decide +kernel
theorem d_Log_putNode_90 : decode prog_7_method_21_code 90 = .ok (.iload_n 1, 1) := by decide +kernel
theorem d_Log_putNode_91 : decode prog_7_method_21_code 91 = .ok (.iload 4, 2) := by decide +kernel
theorem d_Log_putNode_93 : decode prog_7_method_21_code 93 = .ok (.invokevirtual 106, 3) := by decide +kernel
theorem d_Log_putNode_96 : decode prog_7_method_21_code 96 = .ok (.return_, 1) := by decide +kernel
set_option maxHeartbeats 4000000 in
set_option maxRecDepth 100000 in
theorem v_Log_putNode_27_15 {p : Program} {l : Launch} {e : Env} {s : State} {m : MethodId} {args : Array Value} {below : List Frame} {meth : Method} {c : Code} {D : va_G} {ad : Nat → Nat} {ca : Nat → ClassId} {A : Nat → Prop} {FU : Nat} {q : St} (X : FX p s m meth c prog_7_method_21_code 5 none "FlashFiles$Log" D (tyF ca) A) {y1 : Int32} {y3 : Int32} {y4 : Int32} {z0 : Int32} {g : St} {H : Heap} {locs : List Loc} {ls : Array Slot} (hP : va_P D cls (wF ad ca g) H) (hD : va_D A (wF ad ca g)) (hS : va_S A s.heap H locs) (hl : lv_has ls 5 [(0, .ref (ad 5)), (1, .int y1), (2, .ref (ad 26)), (3, .int y3), (4, .int y4)]) (h : Log_putNode_b27 FU 15 y1 y3 y4 z0 g = some q) : W p l e (rmN 3) s m args below meth c H locs 0 0 (MQ below (fxQv D (tyF ca) A (wF ad ca q)) args s 0 0 A) (F0 m 27 ls [.int z0, .ref (ad 5)]) := by
  have hx := X.1
  have hb := X.2.1
  unfold Log_putNode_b27 at h
  obtain ⟨g1, e1, h⟩ := nx_some h
  refine uF_log_nodeEnd X hP hD hS e1 d_Log_putNode_27 (fun H locs hP hD hS => ?_)
  refine lv_aload_n hx hb d_Log_putNode_30 rfl (lv_at hl 2 rfl) ?_
  refine lv_bipush (v := 59) hx hb d_Log_putNode_31 (by decide) ?_
  refine lv_iload_n hx hb d_Log_putNode_33 rfl (lv_at hl 3 rfl) ?_
  obtain ⟨g2, e1, h⟩ := bd_some h
  refine sF_15 X hP hD hS e1 d_Log_putNode_34 (fun H locs hP hD hS => ?_)
  refine lv_aload_n hx hb d_Log_putNode_35 rfl (lv_at hl 2 rfl) ?_
  refine lv_bipush (v := 60) hx hb d_Log_putNode_36 (by decide) ?_
  refine lv_iload_n hx hb d_Log_putNode_38 rfl (lv_at hl 1 rfl) ?_
  obtain ⟨g3, e1, h⟩ := bd_some h
  refine sF_15 X hP hD hS e1 d_Log_putNode_39 (fun H locs hP hD hS => ?_)
  refine lv_aload_n hx hb d_Log_putNode_40 rfl (lv_at hl 2 rfl) ?_
  refine lv_bipush (v := 62) hx hb d_Log_putNode_41 (by decide) ?_
  refine lv_aload_n hx hb d_Log_putNode_43 rfl (lv_at hl 0 rfl) ?_
  refine gF_log_serial X hP d_Log_putNode_44 ?_
  obtain ⟨g4, e1, h⟩ := bd_some h
  refine sF_15 X hP hD hS e1 d_Log_putNode_47 (fun H locs hP hD hS => ?_)
  refine lv_aload_n hx hb d_Log_putNode_48 rfl (lv_at hl 2 rfl) ?_
  refine lv_bipush (v := 63) hx hb d_Log_putNode_49 (by decide) ?_
  refine lv_aload_n hx hb d_Log_putNode_51 rfl (lv_at hl 0 rfl) ?_
  refine gF_log_nodeEnd X hP d_Log_putNode_52 ?_
  obtain ⟨g5, e1, h⟩ := bd_some h
  refine sF_15 X hP hD hS e1 d_Log_putNode_55 (fun H locs hP hD hS => ?_)
  refine lv_aload_n hx hb d_Log_putNode_56 rfl (lv_at hl 0 rfl) ?_
  refine gF_log_device X hP d_Log_putNode_57 ?_
  refine lv_iload hx hb d_Log_putNode_60 (lv_at hl 4 rfl) ?_
  refine lv_aload_n hx hb d_Log_putNode_62 rfl (lv_at hl 2 rfl) ?_
  refine lv_iconst (v := 0) hx hb d_Log_putNode_63 (by decide) ?_
  obtain ⟨p6, e1, h⟩ := bd_some h
  refine fx_v X (fx_runV (As := [.int y4, .ref (ad 26), .int (0 : Int32)]) X (m_Dev_program_15 e1 _) hP hD kv_Log_112 ⟨Nat.le_of_ble_eq_true rfl, Nat.le_of_ble_eq_true rfl⟩ 3 rfl rfl rfl hl.1 rfl (Nat.le_of_ble_eq_true rfl) d_Log_putNode_64) hD hS (fun H locs hP hD hS => ?_)
  refine lv_aload_n hx hb d_Log_putNode_67 rfl (lv_at hl 0 rfl) ?_
  refine lv_iload hx hb d_Log_putNode_68 (lv_at hl 4 rfl) ?_
  refine lv_iconst (v := 1) hx hb d_Log_putNode_70 (by decide) ?_
  obtain ⟨p7, e1, h⟩ := bd_some h
  refine fx_v X (fx_runV (As := [.int y4, .int (1 : Int32)]) X (m_Log_claim e1 _) hP hD kv_Log_116 ⟨Nat.le_of_ble_eq_true rfl, Nat.le_of_ble_eq_true rfl⟩ 5 rfl rfl rfl hl.1 rfl (Nat.le_of_ble_eq_true rfl) d_Log_putNode_71) hD hS (fun H locs hP hD hS => ?_)
  refine lv_aload_n hx hb d_Log_putNode_74 rfl (lv_at hl 0 rfl) ?_
  refine lv_aload_n hx hb d_Log_putNode_75 rfl (lv_at hl 0 rfl) ?_
  refine gF_log_table X hP d_Log_putNode_76 ?_
  refine lv_iload_n hx hb d_Log_putNode_79 rfl (lv_at hl 1 rfl) ?_
  obtain ⟨v8, e1, h⟩ := bd_some h
  refine fx_i X (fx_runV (As := [.int y1]) X (m_Tab_placeOf e1 _) hP hD kv_Log_98 ⟨Nat.le_of_ble_eq_true rfl, Nat.le_of_ble_eq_true rfl⟩ 4 rfl rfl rfl hl.1 rfl (Nat.le_of_ble_eq_true rfl) d_Log_putNode_80) hD hS (fun H locs hP hD hS => ?_)
  obtain ⟨p9, e1, h⟩ := bd_some h
  refine fx_v X (fx_runV (As := [.int v8]) X (m_Log_drop e1 _) hP hD kv_Log_103 ⟨Nat.le_of_ble_eq_true rfl, Nat.le_of_ble_eq_true rfl⟩ 5 rfl rfl rfl hl.1 rfl (Nat.le_of_ble_eq_true rfl) d_Log_putNode_83) hD hS (fun H locs hP hD hS => ?_)
  refine lv_aload_n hx hb d_Log_putNode_86 rfl (lv_at hl 0 rfl) ?_
  refine gF_log_table X hP d_Log_putNode_87 ?_
  refine lv_iload_n hx hb d_Log_putNode_90 rfl (lv_at hl 1 rfl) ?_
  refine lv_iload hx hb d_Log_putNode_91 (lv_at hl 4 rfl) ?_
  obtain ⟨p10, e1, h⟩ := bd_some h
  refine fx_v X (fx_runV (As := [.int y1, .int y4]) X (m_Tab_setPlace e1 _) hP hD kv_Log_106 ⟨Nat.le_of_ble_eq_true rfl, Nat.le_of_ble_eq_true rfl⟩ 4 rfl rfl rfl hl.1 rfl (Nat.le_of_ble_eq_true rfl) d_Log_putNode_93) hD hS (fun H locs hP hD hS => ?_)
  cases h
  exact fx_vret X hP hD hS d_Log_putNode_96
set_option maxHeartbeats 4000000 in
set_option maxRecDepth 100000 in
theorem m_Log_putNode_15 {l : Launch} {D : va_G} {ad : Nat → Nat} {ca : Nat → ClassId} {FU : Nat} {x1 : Int32} {x3 : Int32} {g : St} {q : St} (h : Log_putNode FU 15 x1 x3 g = some q) : CV l ⟨"FlashFiles$Log", "putNode", "(I[II)V"⟩ prog_7_method_21_code 5 3 D (tyF ca) (wF ad ca g) [.ref (ad 5), .int x1, .ref (ad 26), .int x3] (wF ad ca q) := by
  intro sz
  refine Met.fx (Qc := fun A => fxQv D (tyF ca) A (wF ad ca q)) (by decide) (Nat.le_of_ble_eq_true rfl) ?_
  intro p e s m below meth c A ls X hP hD hl
  have hl : lv_has ls 5 [(0, .ref (ad 5)), (1, .int x1), (2, .ref (ad 26)), (3, .int x3)] := hl
  have hS : va_S A s.heap s.heap [] := va_S.rf
  have hx := X.1
  have hb := X.2.1
  unfold Log_putNode at h
  refine lv_aload_n hx hb d_Log_putNode_0 rfl (lv_at hl 0 rfl) ?_
  refine gF_log_nodeEnd X hP d_Log_putNode_1 ?_
  refine lv_istore hx hb d_Log_putNode_4 hl (by decide) rfl (fun ls hl => ?_)
  have hl : lv_has ls 5 [(4, .int (g.1 8)), (0, .ref (ad 5)), (1, .int x1), (2, .ref (ad 26)), (3, .int x3)] := hl
  refine lv_aload_n hx hb d_Log_putNode_6 rfl (lv_at hl 1 rfl) ?_
  refine lv_aload_n hx hb d_Log_putNode_7 rfl (lv_at hl 1 rfl) ?_
  refine lv_iload hx hb d_Log_putNode_8 (lv_at hl 0 rfl) ?_
  obtain ⟨v11, e1, h⟩ := bd_some h
  refine fx_i X (fx_runV (As := [.int (g.1 8)]) X (m_Log_isLast e1 _) hP hD kv_Log_109 ⟨Nat.le_of_ble_eq_true rfl, Nat.le_of_ble_eq_true rfl⟩ 5 rfl rfl rfl hl.1 rfl (Nat.le_of_ble_eq_true rfl) d_Log_putNode_10) hD hS (fun H locs hP hD hS => ?_)
  refine lv_if_eq (tgt := 23) hx hb d_Log_putNode_13 (by decide) (fun hc => ?_) (fun hc => ?_)
  · have h := if_t hc h
    refine lv_iload hx hb d_Log_putNode_23 (lv_at hl 0 rfl) ?_
    refine lv_iconst (v := 1) hx hb d_Log_putNode_25 (by decide) ?_
    refine lv_iadd hx hb d_Log_putNode_26 ?_
    exact v_Log_putNode_27_15 X  hP hD hS (lv_sub hl [1, 2, 3, 4, 0] rfl) h
  · have h := if_f hc h
    refine lv_aload_n hx hb d_Log_putNode_16 rfl (lv_at hl 1 rfl) ?_
    obtain ⟨p12, e1, h⟩ := bd_some h
    refine fx_i X (fx_runV (As := []) X (m_Log_openSegment e1 _) hP hD kv_Log_94 ⟨Nat.le_of_ble_eq_true rfl, Nat.le_of_ble_eq_true rfl⟩ 5 rfl rfl rfl hl.1 rfl (Nat.le_of_ble_eq_true rfl) d_Log_putNode_17) hD hS (fun H locs hP hD hS => ?_)
    refine lv_goto (tgt := 27) hx hb d_Log_putNode_20 (by decide) ?_
    exact v_Log_putNode_27_15 X  hP hD hS (lv_sub hl [1, 2, 3, 4, 0] rfl) h
set_option maxHeartbeats 4000000 in
set_option maxRecDepth 100000 in
theorem v_Log_putNode_27_14 {p : Program} {l : Launch} {e : Env} {s : State} {m : MethodId} {args : Array Value} {below : List Frame} {meth : Method} {c : Code} {D : va_G} {ad : Nat → Nat} {ca : Nat → ClassId} {A : Nat → Prop} {FU : Nat} {q : St} (X : FX p s m meth c prog_7_method_21_code 5 none "FlashFiles$Log" D (tyF ca) A) {y1 : Int32} {y3 : Int32} {y4 : Int32} {z0 : Int32} {g : St} {H : Heap} {locs : List Loc} {ls : Array Slot} (hP : va_P D cls (wF ad ca g) H) (hD : va_D A (wF ad ca g)) (hS : va_S A s.heap H locs) (hl : lv_has ls 5 [(0, .ref (ad 5)), (1, .int y1), (2, .ref (ad 25)), (3, .int y3), (4, .int y4)]) (h : Log_putNode_b27 FU 14 y1 y3 y4 z0 g = some q) : W p l e (rmN 3) s m args below meth c H locs 0 0 (MQ below (fxQv D (tyF ca) A (wF ad ca q)) args s 0 0 A) (F0 m 27 ls [.int z0, .ref (ad 5)]) := by
  have hx := X.1
  have hb := X.2.1
  unfold Log_putNode_b27 at h
  obtain ⟨g1, e1, h⟩ := nx_some h
  refine uF_log_nodeEnd X hP hD hS e1 d_Log_putNode_27 (fun H locs hP hD hS => ?_)
  refine lv_aload_n hx hb d_Log_putNode_30 rfl (lv_at hl 2 rfl) ?_
  refine lv_bipush (v := 59) hx hb d_Log_putNode_31 (by decide) ?_
  refine lv_iload_n hx hb d_Log_putNode_33 rfl (lv_at hl 3 rfl) ?_
  obtain ⟨g2, e1, h⟩ := bd_some h
  refine sF_14 X hP hD hS e1 d_Log_putNode_34 (fun H locs hP hD hS => ?_)
  refine lv_aload_n hx hb d_Log_putNode_35 rfl (lv_at hl 2 rfl) ?_
  refine lv_bipush (v := 60) hx hb d_Log_putNode_36 (by decide) ?_
  refine lv_iload_n hx hb d_Log_putNode_38 rfl (lv_at hl 1 rfl) ?_
  obtain ⟨g3, e1, h⟩ := bd_some h
  refine sF_14 X hP hD hS e1 d_Log_putNode_39 (fun H locs hP hD hS => ?_)
  refine lv_aload_n hx hb d_Log_putNode_40 rfl (lv_at hl 2 rfl) ?_
  refine lv_bipush (v := 62) hx hb d_Log_putNode_41 (by decide) ?_
  refine lv_aload_n hx hb d_Log_putNode_43 rfl (lv_at hl 0 rfl) ?_
  refine gF_log_serial X hP d_Log_putNode_44 ?_
  obtain ⟨g4, e1, h⟩ := bd_some h
  refine sF_14 X hP hD hS e1 d_Log_putNode_47 (fun H locs hP hD hS => ?_)
  refine lv_aload_n hx hb d_Log_putNode_48 rfl (lv_at hl 2 rfl) ?_
  refine lv_bipush (v := 63) hx hb d_Log_putNode_49 (by decide) ?_
  refine lv_aload_n hx hb d_Log_putNode_51 rfl (lv_at hl 0 rfl) ?_
  refine gF_log_nodeEnd X hP d_Log_putNode_52 ?_
  obtain ⟨g5, e1, h⟩ := bd_some h
  refine sF_14 X hP hD hS e1 d_Log_putNode_55 (fun H locs hP hD hS => ?_)
  refine lv_aload_n hx hb d_Log_putNode_56 rfl (lv_at hl 0 rfl) ?_
  refine gF_log_device X hP d_Log_putNode_57 ?_
  refine lv_iload hx hb d_Log_putNode_60 (lv_at hl 4 rfl) ?_
  refine lv_aload_n hx hb d_Log_putNode_62 rfl (lv_at hl 2 rfl) ?_
  refine lv_iconst (v := 0) hx hb d_Log_putNode_63 (by decide) ?_
  obtain ⟨p6, e1, h⟩ := bd_some h
  refine fx_v X (fx_runV (As := [.int y4, .ref (ad 25), .int (0 : Int32)]) X (m_Dev_program_14 e1 _) hP hD kv_Log_112 ⟨Nat.le_of_ble_eq_true rfl, Nat.le_of_ble_eq_true rfl⟩ 3 rfl rfl rfl hl.1 rfl (Nat.le_of_ble_eq_true rfl) d_Log_putNode_64) hD hS (fun H locs hP hD hS => ?_)
  refine lv_aload_n hx hb d_Log_putNode_67 rfl (lv_at hl 0 rfl) ?_
  refine lv_iload hx hb d_Log_putNode_68 (lv_at hl 4 rfl) ?_
  refine lv_iconst (v := 1) hx hb d_Log_putNode_70 (by decide) ?_
  obtain ⟨p7, e1, h⟩ := bd_some h
  refine fx_v X (fx_runV (As := [.int y4, .int (1 : Int32)]) X (m_Log_claim e1 _) hP hD kv_Log_116 ⟨Nat.le_of_ble_eq_true rfl, Nat.le_of_ble_eq_true rfl⟩ 5 rfl rfl rfl hl.1 rfl (Nat.le_of_ble_eq_true rfl) d_Log_putNode_71) hD hS (fun H locs hP hD hS => ?_)
  refine lv_aload_n hx hb d_Log_putNode_74 rfl (lv_at hl 0 rfl) ?_
  refine lv_aload_n hx hb d_Log_putNode_75 rfl (lv_at hl 0 rfl) ?_
  refine gF_log_table X hP d_Log_putNode_76 ?_
  refine lv_iload_n hx hb d_Log_putNode_79 rfl (lv_at hl 1 rfl) ?_
  obtain ⟨v8, e1, h⟩ := bd_some h
  refine fx_i X (fx_runV (As := [.int y1]) X (m_Tab_placeOf e1 _) hP hD kv_Log_98 ⟨Nat.le_of_ble_eq_true rfl, Nat.le_of_ble_eq_true rfl⟩ 4 rfl rfl rfl hl.1 rfl (Nat.le_of_ble_eq_true rfl) d_Log_putNode_80) hD hS (fun H locs hP hD hS => ?_)
  obtain ⟨p9, e1, h⟩ := bd_some h
  refine fx_v X (fx_runV (As := [.int v8]) X (m_Log_drop e1 _) hP hD kv_Log_103 ⟨Nat.le_of_ble_eq_true rfl, Nat.le_of_ble_eq_true rfl⟩ 5 rfl rfl rfl hl.1 rfl (Nat.le_of_ble_eq_true rfl) d_Log_putNode_83) hD hS (fun H locs hP hD hS => ?_)
  refine lv_aload_n hx hb d_Log_putNode_86 rfl (lv_at hl 0 rfl) ?_
  refine gF_log_table X hP d_Log_putNode_87 ?_
  refine lv_iload_n hx hb d_Log_putNode_90 rfl (lv_at hl 1 rfl) ?_
  refine lv_iload hx hb d_Log_putNode_91 (lv_at hl 4 rfl) ?_
  obtain ⟨p10, e1, h⟩ := bd_some h
  refine fx_v X (fx_runV (As := [.int y1, .int y4]) X (m_Tab_setPlace e1 _) hP hD kv_Log_106 ⟨Nat.le_of_ble_eq_true rfl, Nat.le_of_ble_eq_true rfl⟩ 4 rfl rfl rfl hl.1 rfl (Nat.le_of_ble_eq_true rfl) d_Log_putNode_93) hD hS (fun H locs hP hD hS => ?_)
  cases h
  exact fx_vret X hP hD hS d_Log_putNode_96
set_option maxHeartbeats 4000000 in
set_option maxRecDepth 100000 in
theorem m_Log_putNode_14 {l : Launch} {D : va_G} {ad : Nat → Nat} {ca : Nat → ClassId} {FU : Nat} {x1 : Int32} {x3 : Int32} {g : St} {q : St} (h : Log_putNode FU 14 x1 x3 g = some q) : CV l ⟨"FlashFiles$Log", "putNode", "(I[II)V"⟩ prog_7_method_21_code 5 3 D (tyF ca) (wF ad ca g) [.ref (ad 5), .int x1, .ref (ad 25), .int x3] (wF ad ca q) := by
  intro sz
  refine Met.fx (Qc := fun A => fxQv D (tyF ca) A (wF ad ca q)) (by decide) (Nat.le_of_ble_eq_true rfl) ?_
  intro p e s m below meth c A ls X hP hD hl
  have hl : lv_has ls 5 [(0, .ref (ad 5)), (1, .int x1), (2, .ref (ad 25)), (3, .int x3)] := hl
  have hS : va_S A s.heap s.heap [] := va_S.rf
  have hx := X.1
  have hb := X.2.1
  unfold Log_putNode at h
  refine lv_aload_n hx hb d_Log_putNode_0 rfl (lv_at hl 0 rfl) ?_
  refine gF_log_nodeEnd X hP d_Log_putNode_1 ?_
  refine lv_istore hx hb d_Log_putNode_4 hl (by decide) rfl (fun ls hl => ?_)
  have hl : lv_has ls 5 [(4, .int (g.1 8)), (0, .ref (ad 5)), (1, .int x1), (2, .ref (ad 25)), (3, .int x3)] := hl
  refine lv_aload_n hx hb d_Log_putNode_6 rfl (lv_at hl 1 rfl) ?_
  refine lv_aload_n hx hb d_Log_putNode_7 rfl (lv_at hl 1 rfl) ?_
  refine lv_iload hx hb d_Log_putNode_8 (lv_at hl 0 rfl) ?_
  obtain ⟨v11, e1, h⟩ := bd_some h
  refine fx_i X (fx_runV (As := [.int (g.1 8)]) X (m_Log_isLast e1 _) hP hD kv_Log_109 ⟨Nat.le_of_ble_eq_true rfl, Nat.le_of_ble_eq_true rfl⟩ 5 rfl rfl rfl hl.1 rfl (Nat.le_of_ble_eq_true rfl) d_Log_putNode_10) hD hS (fun H locs hP hD hS => ?_)
  refine lv_if_eq (tgt := 23) hx hb d_Log_putNode_13 (by decide) (fun hc => ?_) (fun hc => ?_)
  · have h := if_t hc h
    refine lv_iload hx hb d_Log_putNode_23 (lv_at hl 0 rfl) ?_
    refine lv_iconst (v := 1) hx hb d_Log_putNode_25 (by decide) ?_
    refine lv_iadd hx hb d_Log_putNode_26 ?_
    exact v_Log_putNode_27_14 X  hP hD hS (lv_sub hl [1, 2, 3, 4, 0] rfl) h
  · have h := if_f hc h
    refine lv_aload_n hx hb d_Log_putNode_16 rfl (lv_at hl 1 rfl) ?_
    obtain ⟨p12, e1, h⟩ := bd_some h
    refine fx_i X (fx_runV (As := []) X (m_Log_openSegment e1 _) hP hD kv_Log_94 ⟨Nat.le_of_ble_eq_true rfl, Nat.le_of_ble_eq_true rfl⟩ 5 rfl rfl rfl hl.1 rfl (Nat.le_of_ble_eq_true rfl) d_Log_putNode_17) hD hS (fun H locs hP hD hS => ?_)
    refine lv_goto (tgt := 27) hx hb d_Log_putNode_20 (by decide) ?_
    exact v_Log_putNode_27_14 X  hP hD hS (lv_sub hl [1, 2, 3, 4, 0] rfl) h
set_option maxHeartbeats 4000000 in
set_option maxRecDepth 100000 in
theorem v_Log_putNode_27_13 {p : Program} {l : Launch} {e : Env} {s : State} {m : MethodId} {args : Array Value} {below : List Frame} {meth : Method} {c : Code} {D : va_G} {ad : Nat → Nat} {ca : Nat → ClassId} {A : Nat → Prop} {FU : Nat} {q : St} (X : FX p s m meth c prog_7_method_21_code 5 none "FlashFiles$Log" D (tyF ca) A) {y1 : Int32} {y3 : Int32} {y4 : Int32} {z0 : Int32} {g : St} {H : Heap} {locs : List Loc} {ls : Array Slot} (hP : va_P D cls (wF ad ca g) H) (hD : va_D A (wF ad ca g)) (hS : va_S A s.heap H locs) (hl : lv_has ls 5 [(0, .ref (ad 5)), (1, .int y1), (2, .ref (ad 24)), (3, .int y3), (4, .int y4)]) (h : Log_putNode_b27 FU 13 y1 y3 y4 z0 g = some q) : W p l e (rmN 3) s m args below meth c H locs 0 0 (MQ below (fxQv D (tyF ca) A (wF ad ca q)) args s 0 0 A) (F0 m 27 ls [.int z0, .ref (ad 5)]) := by
  have hx := X.1
  have hb := X.2.1
  unfold Log_putNode_b27 at h
  obtain ⟨g1, e1, h⟩ := nx_some h
  refine uF_log_nodeEnd X hP hD hS e1 d_Log_putNode_27 (fun H locs hP hD hS => ?_)
  refine lv_aload_n hx hb d_Log_putNode_30 rfl (lv_at hl 2 rfl) ?_
  refine lv_bipush (v := 59) hx hb d_Log_putNode_31 (by decide) ?_
  refine lv_iload_n hx hb d_Log_putNode_33 rfl (lv_at hl 3 rfl) ?_
  obtain ⟨g2, e1, h⟩ := bd_some h
  refine sF_13 X hP hD hS e1 d_Log_putNode_34 (fun H locs hP hD hS => ?_)
  refine lv_aload_n hx hb d_Log_putNode_35 rfl (lv_at hl 2 rfl) ?_
  refine lv_bipush (v := 60) hx hb d_Log_putNode_36 (by decide) ?_
  refine lv_iload_n hx hb d_Log_putNode_38 rfl (lv_at hl 1 rfl) ?_
  obtain ⟨g3, e1, h⟩ := bd_some h
  refine sF_13 X hP hD hS e1 d_Log_putNode_39 (fun H locs hP hD hS => ?_)
  refine lv_aload_n hx hb d_Log_putNode_40 rfl (lv_at hl 2 rfl) ?_
  refine lv_bipush (v := 62) hx hb d_Log_putNode_41 (by decide) ?_
  refine lv_aload_n hx hb d_Log_putNode_43 rfl (lv_at hl 0 rfl) ?_
  refine gF_log_serial X hP d_Log_putNode_44 ?_
  obtain ⟨g4, e1, h⟩ := bd_some h
  refine sF_13 X hP hD hS e1 d_Log_putNode_47 (fun H locs hP hD hS => ?_)
  refine lv_aload_n hx hb d_Log_putNode_48 rfl (lv_at hl 2 rfl) ?_
  refine lv_bipush (v := 63) hx hb d_Log_putNode_49 (by decide) ?_
  refine lv_aload_n hx hb d_Log_putNode_51 rfl (lv_at hl 0 rfl) ?_
  refine gF_log_nodeEnd X hP d_Log_putNode_52 ?_
  obtain ⟨g5, e1, h⟩ := bd_some h
  refine sF_13 X hP hD hS e1 d_Log_putNode_55 (fun H locs hP hD hS => ?_)
  refine lv_aload_n hx hb d_Log_putNode_56 rfl (lv_at hl 0 rfl) ?_
  refine gF_log_device X hP d_Log_putNode_57 ?_
  refine lv_iload hx hb d_Log_putNode_60 (lv_at hl 4 rfl) ?_
  refine lv_aload_n hx hb d_Log_putNode_62 rfl (lv_at hl 2 rfl) ?_
  refine lv_iconst (v := 0) hx hb d_Log_putNode_63 (by decide) ?_
  obtain ⟨p6, e1, h⟩ := bd_some h
  refine fx_v X (fx_runV (As := [.int y4, .ref (ad 24), .int (0 : Int32)]) X (m_Dev_program_13 e1 _) hP hD kv_Log_112 ⟨Nat.le_of_ble_eq_true rfl, Nat.le_of_ble_eq_true rfl⟩ 3 rfl rfl rfl hl.1 rfl (Nat.le_of_ble_eq_true rfl) d_Log_putNode_64) hD hS (fun H locs hP hD hS => ?_)
  refine lv_aload_n hx hb d_Log_putNode_67 rfl (lv_at hl 0 rfl) ?_
  refine lv_iload hx hb d_Log_putNode_68 (lv_at hl 4 rfl) ?_
  refine lv_iconst (v := 1) hx hb d_Log_putNode_70 (by decide) ?_
  obtain ⟨p7, e1, h⟩ := bd_some h
  refine fx_v X (fx_runV (As := [.int y4, .int (1 : Int32)]) X (m_Log_claim e1 _) hP hD kv_Log_116 ⟨Nat.le_of_ble_eq_true rfl, Nat.le_of_ble_eq_true rfl⟩ 5 rfl rfl rfl hl.1 rfl (Nat.le_of_ble_eq_true rfl) d_Log_putNode_71) hD hS (fun H locs hP hD hS => ?_)
  refine lv_aload_n hx hb d_Log_putNode_74 rfl (lv_at hl 0 rfl) ?_
  refine lv_aload_n hx hb d_Log_putNode_75 rfl (lv_at hl 0 rfl) ?_
  refine gF_log_table X hP d_Log_putNode_76 ?_
  refine lv_iload_n hx hb d_Log_putNode_79 rfl (lv_at hl 1 rfl) ?_
  obtain ⟨v8, e1, h⟩ := bd_some h
  refine fx_i X (fx_runV (As := [.int y1]) X (m_Tab_placeOf e1 _) hP hD kv_Log_98 ⟨Nat.le_of_ble_eq_true rfl, Nat.le_of_ble_eq_true rfl⟩ 4 rfl rfl rfl hl.1 rfl (Nat.le_of_ble_eq_true rfl) d_Log_putNode_80) hD hS (fun H locs hP hD hS => ?_)
  obtain ⟨p9, e1, h⟩ := bd_some h
  refine fx_v X (fx_runV (As := [.int v8]) X (m_Log_drop e1 _) hP hD kv_Log_103 ⟨Nat.le_of_ble_eq_true rfl, Nat.le_of_ble_eq_true rfl⟩ 5 rfl rfl rfl hl.1 rfl (Nat.le_of_ble_eq_true rfl) d_Log_putNode_83) hD hS (fun H locs hP hD hS => ?_)
  refine lv_aload_n hx hb d_Log_putNode_86 rfl (lv_at hl 0 rfl) ?_
  refine gF_log_table X hP d_Log_putNode_87 ?_
  refine lv_iload_n hx hb d_Log_putNode_90 rfl (lv_at hl 1 rfl) ?_
  refine lv_iload hx hb d_Log_putNode_91 (lv_at hl 4 rfl) ?_
  obtain ⟨p10, e1, h⟩ := bd_some h
  refine fx_v X (fx_runV (As := [.int y1, .int y4]) X (m_Tab_setPlace e1 _) hP hD kv_Log_106 ⟨Nat.le_of_ble_eq_true rfl, Nat.le_of_ble_eq_true rfl⟩ 4 rfl rfl rfl hl.1 rfl (Nat.le_of_ble_eq_true rfl) d_Log_putNode_93) hD hS (fun H locs hP hD hS => ?_)
  cases h
  exact fx_vret X hP hD hS d_Log_putNode_96
set_option maxHeartbeats 4000000 in
set_option maxRecDepth 100000 in
theorem m_Log_putNode_13 {l : Launch} {D : va_G} {ad : Nat → Nat} {ca : Nat → ClassId} {FU : Nat} {x1 : Int32} {x3 : Int32} {g : St} {q : St} (h : Log_putNode FU 13 x1 x3 g = some q) : CV l ⟨"FlashFiles$Log", "putNode", "(I[II)V"⟩ prog_7_method_21_code 5 3 D (tyF ca) (wF ad ca g) [.ref (ad 5), .int x1, .ref (ad 24), .int x3] (wF ad ca q) := by
  intro sz
  refine Met.fx (Qc := fun A => fxQv D (tyF ca) A (wF ad ca q)) (by decide) (Nat.le_of_ble_eq_true rfl) ?_
  intro p e s m below meth c A ls X hP hD hl
  have hl : lv_has ls 5 [(0, .ref (ad 5)), (1, .int x1), (2, .ref (ad 24)), (3, .int x3)] := hl
  have hS : va_S A s.heap s.heap [] := va_S.rf
  have hx := X.1
  have hb := X.2.1
  unfold Log_putNode at h
  refine lv_aload_n hx hb d_Log_putNode_0 rfl (lv_at hl 0 rfl) ?_
  refine gF_log_nodeEnd X hP d_Log_putNode_1 ?_
  refine lv_istore hx hb d_Log_putNode_4 hl (by decide) rfl (fun ls hl => ?_)
  have hl : lv_has ls 5 [(4, .int (g.1 8)), (0, .ref (ad 5)), (1, .int x1), (2, .ref (ad 24)), (3, .int x3)] := hl
  refine lv_aload_n hx hb d_Log_putNode_6 rfl (lv_at hl 1 rfl) ?_
  refine lv_aload_n hx hb d_Log_putNode_7 rfl (lv_at hl 1 rfl) ?_
  refine lv_iload hx hb d_Log_putNode_8 (lv_at hl 0 rfl) ?_
  obtain ⟨v11, e1, h⟩ := bd_some h
  refine fx_i X (fx_runV (As := [.int (g.1 8)]) X (m_Log_isLast e1 _) hP hD kv_Log_109 ⟨Nat.le_of_ble_eq_true rfl, Nat.le_of_ble_eq_true rfl⟩ 5 rfl rfl rfl hl.1 rfl (Nat.le_of_ble_eq_true rfl) d_Log_putNode_10) hD hS (fun H locs hP hD hS => ?_)
  refine lv_if_eq (tgt := 23) hx hb d_Log_putNode_13 (by decide) (fun hc => ?_) (fun hc => ?_)
  · have h := if_t hc h
    refine lv_iload hx hb d_Log_putNode_23 (lv_at hl 0 rfl) ?_
    refine lv_iconst (v := 1) hx hb d_Log_putNode_25 (by decide) ?_
    refine lv_iadd hx hb d_Log_putNode_26 ?_
    exact v_Log_putNode_27_13 X  hP hD hS (lv_sub hl [1, 2, 3, 4, 0] rfl) h
  · have h := if_f hc h
    refine lv_aload_n hx hb d_Log_putNode_16 rfl (lv_at hl 1 rfl) ?_
    obtain ⟨p12, e1, h⟩ := bd_some h
    refine fx_i X (fx_runV (As := []) X (m_Log_openSegment e1 _) hP hD kv_Log_94 ⟨Nat.le_of_ble_eq_true rfl, Nat.le_of_ble_eq_true rfl⟩ 5 rfl rfl rfl hl.1 rfl (Nat.le_of_ble_eq_true rfl) d_Log_putNode_17) hD hS (fun H locs hP hD hS => ?_)
    refine lv_goto (tgt := 27) hx hb d_Log_putNode_20 (by decide) ?_
    exact v_Log_putNode_27_13 X  hP hD hS (lv_sub hl [1, 2, 3, 4, 0] rfl) h
set_option maxHeartbeats 4000000 in
set_option maxRecDepth 100000 in
theorem v_Log_putNode_27_17 {p : Program} {l : Launch} {e : Env} {s : State} {m : MethodId} {args : Array Value} {below : List Frame} {meth : Method} {c : Code} {D : va_G} {ad : Nat → Nat} {ca : Nat → ClassId} {A : Nat → Prop} {FU : Nat} {q : St} (X : FX p s m meth c prog_7_method_21_code 5 none "FlashFiles$Log" D (tyF ca) A) {y1 : Int32} {y3 : Int32} {y4 : Int32} {z0 : Int32} {g : St} {H : Heap} {locs : List Loc} {ls : Array Slot} (hP : va_P D cls (wF ad ca g) H) (hD : va_D A (wF ad ca g)) (hS : va_S A s.heap H locs) (hl : lv_has ls 5 [(0, .ref (ad 5)), (1, .int y1), (2, .ref (ad 28)), (3, .int y3), (4, .int y4)]) (h : Log_putNode_b27 FU 17 y1 y3 y4 z0 g = some q) : W p l e (rmN 3) s m args below meth c H locs 0 0 (MQ below (fxQv D (tyF ca) A (wF ad ca q)) args s 0 0 A) (F0 m 27 ls [.int z0, .ref (ad 5)]) := by
  have hx := X.1
  have hb := X.2.1
  unfold Log_putNode_b27 at h
  obtain ⟨g1, e1, h⟩ := nx_some h
  refine uF_log_nodeEnd X hP hD hS e1 d_Log_putNode_27 (fun H locs hP hD hS => ?_)
  refine lv_aload_n hx hb d_Log_putNode_30 rfl (lv_at hl 2 rfl) ?_
  refine lv_bipush (v := 59) hx hb d_Log_putNode_31 (by decide) ?_
  refine lv_iload_n hx hb d_Log_putNode_33 rfl (lv_at hl 3 rfl) ?_
  obtain ⟨g2, e1, h⟩ := bd_some h
  refine sF_17 X hP hD hS e1 d_Log_putNode_34 (fun H locs hP hD hS => ?_)
  refine lv_aload_n hx hb d_Log_putNode_35 rfl (lv_at hl 2 rfl) ?_
  refine lv_bipush (v := 60) hx hb d_Log_putNode_36 (by decide) ?_
  refine lv_iload_n hx hb d_Log_putNode_38 rfl (lv_at hl 1 rfl) ?_
  obtain ⟨g3, e1, h⟩ := bd_some h
  refine sF_17 X hP hD hS e1 d_Log_putNode_39 (fun H locs hP hD hS => ?_)
  refine lv_aload_n hx hb d_Log_putNode_40 rfl (lv_at hl 2 rfl) ?_
  refine lv_bipush (v := 62) hx hb d_Log_putNode_41 (by decide) ?_
  refine lv_aload_n hx hb d_Log_putNode_43 rfl (lv_at hl 0 rfl) ?_
  refine gF_log_serial X hP d_Log_putNode_44 ?_
  obtain ⟨g4, e1, h⟩ := bd_some h
  refine sF_17 X hP hD hS e1 d_Log_putNode_47 (fun H locs hP hD hS => ?_)
  refine lv_aload_n hx hb d_Log_putNode_48 rfl (lv_at hl 2 rfl) ?_
  refine lv_bipush (v := 63) hx hb d_Log_putNode_49 (by decide) ?_
  refine lv_aload_n hx hb d_Log_putNode_51 rfl (lv_at hl 0 rfl) ?_
  refine gF_log_nodeEnd X hP d_Log_putNode_52 ?_
  obtain ⟨g5, e1, h⟩ := bd_some h
  refine sF_17 X hP hD hS e1 d_Log_putNode_55 (fun H locs hP hD hS => ?_)
  refine lv_aload_n hx hb d_Log_putNode_56 rfl (lv_at hl 0 rfl) ?_
  refine gF_log_device X hP d_Log_putNode_57 ?_
  refine lv_iload hx hb d_Log_putNode_60 (lv_at hl 4 rfl) ?_
  refine lv_aload_n hx hb d_Log_putNode_62 rfl (lv_at hl 2 rfl) ?_
  refine lv_iconst (v := 0) hx hb d_Log_putNode_63 (by decide) ?_
  obtain ⟨p6, e1, h⟩ := bd_some h
  refine fx_v X (fx_runV (As := [.int y4, .ref (ad 28), .int (0 : Int32)]) X (m_Dev_program_17 e1 _) hP hD kv_Log_112 ⟨Nat.le_of_ble_eq_true rfl, Nat.le_of_ble_eq_true rfl⟩ 3 rfl rfl rfl hl.1 rfl (Nat.le_of_ble_eq_true rfl) d_Log_putNode_64) hD hS (fun H locs hP hD hS => ?_)
  refine lv_aload_n hx hb d_Log_putNode_67 rfl (lv_at hl 0 rfl) ?_
  refine lv_iload hx hb d_Log_putNode_68 (lv_at hl 4 rfl) ?_
  refine lv_iconst (v := 1) hx hb d_Log_putNode_70 (by decide) ?_
  obtain ⟨p7, e1, h⟩ := bd_some h
  refine fx_v X (fx_runV (As := [.int y4, .int (1 : Int32)]) X (m_Log_claim e1 _) hP hD kv_Log_116 ⟨Nat.le_of_ble_eq_true rfl, Nat.le_of_ble_eq_true rfl⟩ 5 rfl rfl rfl hl.1 rfl (Nat.le_of_ble_eq_true rfl) d_Log_putNode_71) hD hS (fun H locs hP hD hS => ?_)
  refine lv_aload_n hx hb d_Log_putNode_74 rfl (lv_at hl 0 rfl) ?_
  refine lv_aload_n hx hb d_Log_putNode_75 rfl (lv_at hl 0 rfl) ?_
  refine gF_log_table X hP d_Log_putNode_76 ?_
  refine lv_iload_n hx hb d_Log_putNode_79 rfl (lv_at hl 1 rfl) ?_
  obtain ⟨v8, e1, h⟩ := bd_some h
  refine fx_i X (fx_runV (As := [.int y1]) X (m_Tab_placeOf e1 _) hP hD kv_Log_98 ⟨Nat.le_of_ble_eq_true rfl, Nat.le_of_ble_eq_true rfl⟩ 4 rfl rfl rfl hl.1 rfl (Nat.le_of_ble_eq_true rfl) d_Log_putNode_80) hD hS (fun H locs hP hD hS => ?_)
  obtain ⟨p9, e1, h⟩ := bd_some h
  refine fx_v X (fx_runV (As := [.int v8]) X (m_Log_drop e1 _) hP hD kv_Log_103 ⟨Nat.le_of_ble_eq_true rfl, Nat.le_of_ble_eq_true rfl⟩ 5 rfl rfl rfl hl.1 rfl (Nat.le_of_ble_eq_true rfl) d_Log_putNode_83) hD hS (fun H locs hP hD hS => ?_)
  refine lv_aload_n hx hb d_Log_putNode_86 rfl (lv_at hl 0 rfl) ?_
  refine gF_log_table X hP d_Log_putNode_87 ?_
  refine lv_iload_n hx hb d_Log_putNode_90 rfl (lv_at hl 1 rfl) ?_
  refine lv_iload hx hb d_Log_putNode_91 (lv_at hl 4 rfl) ?_
  obtain ⟨p10, e1, h⟩ := bd_some h
  refine fx_v X (fx_runV (As := [.int y1, .int y4]) X (m_Tab_setPlace e1 _) hP hD kv_Log_106 ⟨Nat.le_of_ble_eq_true rfl, Nat.le_of_ble_eq_true rfl⟩ 4 rfl rfl rfl hl.1 rfl (Nat.le_of_ble_eq_true rfl) d_Log_putNode_93) hD hS (fun H locs hP hD hS => ?_)
  cases h
  exact fx_vret X hP hD hS d_Log_putNode_96
set_option maxHeartbeats 4000000 in
set_option maxRecDepth 100000 in
theorem m_Log_putNode_17 {l : Launch} {D : va_G} {ad : Nat → Nat} {ca : Nat → ClassId} {FU : Nat} {x1 : Int32} {x3 : Int32} {g : St} {q : St} (h : Log_putNode FU 17 x1 x3 g = some q) : CV l ⟨"FlashFiles$Log", "putNode", "(I[II)V"⟩ prog_7_method_21_code 5 3 D (tyF ca) (wF ad ca g) [.ref (ad 5), .int x1, .ref (ad 28), .int x3] (wF ad ca q) := by
  intro sz
  refine Met.fx (Qc := fun A => fxQv D (tyF ca) A (wF ad ca q)) (by decide) (Nat.le_of_ble_eq_true rfl) ?_
  intro p e s m below meth c A ls X hP hD hl
  have hl : lv_has ls 5 [(0, .ref (ad 5)), (1, .int x1), (2, .ref (ad 28)), (3, .int x3)] := hl
  have hS : va_S A s.heap s.heap [] := va_S.rf
  have hx := X.1
  have hb := X.2.1
  unfold Log_putNode at h
  refine lv_aload_n hx hb d_Log_putNode_0 rfl (lv_at hl 0 rfl) ?_
  refine gF_log_nodeEnd X hP d_Log_putNode_1 ?_
  refine lv_istore hx hb d_Log_putNode_4 hl (by decide) rfl (fun ls hl => ?_)
  have hl : lv_has ls 5 [(4, .int (g.1 8)), (0, .ref (ad 5)), (1, .int x1), (2, .ref (ad 28)), (3, .int x3)] := hl
  refine lv_aload_n hx hb d_Log_putNode_6 rfl (lv_at hl 1 rfl) ?_
  refine lv_aload_n hx hb d_Log_putNode_7 rfl (lv_at hl 1 rfl) ?_
  refine lv_iload hx hb d_Log_putNode_8 (lv_at hl 0 rfl) ?_
  obtain ⟨v11, e1, h⟩ := bd_some h
  refine fx_i X (fx_runV (As := [.int (g.1 8)]) X (m_Log_isLast e1 _) hP hD kv_Log_109 ⟨Nat.le_of_ble_eq_true rfl, Nat.le_of_ble_eq_true rfl⟩ 5 rfl rfl rfl hl.1 rfl (Nat.le_of_ble_eq_true rfl) d_Log_putNode_10) hD hS (fun H locs hP hD hS => ?_)
  refine lv_if_eq (tgt := 23) hx hb d_Log_putNode_13 (by decide) (fun hc => ?_) (fun hc => ?_)
  · have h := if_t hc h
    refine lv_iload hx hb d_Log_putNode_23 (lv_at hl 0 rfl) ?_
    refine lv_iconst (v := 1) hx hb d_Log_putNode_25 (by decide) ?_
    refine lv_iadd hx hb d_Log_putNode_26 ?_
    exact v_Log_putNode_27_17 X  hP hD hS (lv_sub hl [1, 2, 3, 4, 0] rfl) h
  · have h := if_f hc h
    refine lv_aload_n hx hb d_Log_putNode_16 rfl (lv_at hl 1 rfl) ?_
    obtain ⟨p12, e1, h⟩ := bd_some h
    refine fx_i X (fx_runV (As := []) X (m_Log_openSegment e1 _) hP hD kv_Log_94 ⟨Nat.le_of_ble_eq_true rfl, Nat.le_of_ble_eq_true rfl⟩ 5 rfl rfl rfl hl.1 rfl (Nat.le_of_ble_eq_true rfl) d_Log_putNode_17) hD hS (fun H locs hP hD hS => ?_)
    refine lv_goto (tgt := 27) hx hb d_Log_putNode_20 (by decide) ?_
    exact v_Log_putNode_27_17 X  hP hD hS (lv_sub hl [1, 2, 3, 4, 0] rfl) h
set_option maxHeartbeats 4000000 in
set_option maxRecDepth 100000 in
theorem v_Log_putData_24_21 {p : Program} {l : Launch} {e : Env} {s : State} {m : MethodId} {args : Array Value} {below : List Frame} {meth : Method} {c : Code} {D : va_G} {ad : Nat → Nat} {ca : Nat → ClassId} {A : Nat → Prop} {FU : Nat} {q : Int32 × St} (X : FX p s m meth c prog_7_method_22_code 3 (some .int) "FlashFiles$Log" D (tyF ca) A) {y2 : Int32} {z0 : Int32} {g : St} {H : Heap} {locs : List Loc} {ls : Array Slot} (hP : va_P D cls (wF ad ca g) H) (hD : va_D A (wF ad ca g)) (hS : va_S A s.heap H locs) (hl : lv_has ls 3 [(0, .ref (ad 5)), (1, .ref (ad 32)), (2, .int y2)]) (h : Log_putData_b24 FU 21 y2 z0 g = some q) : W p l e (rmN 3) s m args below meth c H locs 0 0 (MQ below (fxQi D (tyF ca) A (wF ad ca q.2) q.1) args s 0 0 A) (F0 m 24 ls [.int z0, .ref (ad 5)]) := by
  have hx := X.1
  have hb := X.2.1
  unfold Log_putData_b24 at h
  obtain ⟨g1, e1, h⟩ := nx_some h
  refine uF_log_dataEnd X hP hD hS e1 d_Log_putData_24 (fun H locs hP hD hS => ?_)
  refine lv_aload_n hx hb d_Log_putData_27 rfl (lv_at hl 0 rfl) ?_
  refine gF_log_device X hP d_Log_putData_28 ?_
  refine lv_iload_n hx hb d_Log_putData_31 rfl (lv_at hl 2 rfl) ?_
  refine lv_aload_n hx hb d_Log_putData_32 rfl (lv_at hl 1 rfl) ?_
  refine lv_iconst (v := 0) hx hb d_Log_putData_33 (by decide) ?_
  obtain ⟨p2, e1, h⟩ := bd_some h
  refine fx_v X (fx_runV (As := [.int y2, .ref (ad 32), .int (0 : Int32)]) X (m_Dev_program_21 e1 _) hP hD kv_Log_112 ⟨Nat.le_of_ble_eq_true rfl, Nat.le_of_ble_eq_true rfl⟩ 3 rfl rfl rfl hl.1 rfl (Nat.le_of_ble_eq_true rfl) d_Log_putData_34) hD hS (fun H locs hP hD hS => ?_)
  refine lv_aload_n hx hb d_Log_putData_37 rfl (lv_at hl 0 rfl) ?_
  refine lv_iload_n hx hb d_Log_putData_38 rfl (lv_at hl 2 rfl) ?_
  refine lv_iconst (v := 2) hx hb d_Log_putData_39 (by decide) ?_
  obtain ⟨p3, e1, h⟩ := bd_some h
  refine fx_v X (fx_runV (As := [.int y2, .int (2 : Int32)]) X (m_Log_claim e1 _) hP hD kv_Log_116 ⟨Nat.le_of_ble_eq_true rfl, Nat.le_of_ble_eq_true rfl⟩ 5 rfl rfl rfl hl.1 rfl (Nat.le_of_ble_eq_true rfl) d_Log_putData_40) hD hS (fun H locs hP hD hS => ?_)
  refine lv_iload_n hx hb d_Log_putData_43 rfl (lv_at hl 2 rfl) ?_
  cases h
  exact fx_iret X hP hD hS d_Log_putData_44
set_option maxHeartbeats 4000000 in
set_option maxRecDepth 100000 in
theorem m_Log_putData_21 {l : Launch} {D : va_G} {ad : Nat → Nat} {ca : Nat → ClassId} {FU : Nat} {g : St} {q : Int32 × St} (h : Log_putData FU 21 g = some q) : CI l ⟨"FlashFiles$Log", "putData", "([I)I"⟩ prog_7_method_22_code 3 3 (some .int) D (tyF ca) (wF ad ca g) [.ref (ad 5), .ref (ad 32)] q.1 (wF ad ca q.2) := by
  intro sz
  refine Met.fx (Qc := fun A => fxQi D (tyF ca) A (wF ad ca q.2) q.1) (by decide) (Nat.le_of_ble_eq_true rfl) ?_
  intro p e s m below meth c A ls X hP hD hl
  have hl : lv_has ls 3 [(0, .ref (ad 5)), (1, .ref (ad 32))] := hl
  have hS : va_S A s.heap s.heap [] := va_S.rf
  have hx := X.1
  have hb := X.2.1
  unfold Log_putData at h
  refine lv_aload_n hx hb d_Log_putData_0 rfl (lv_at hl 0 rfl) ?_
  refine gF_log_dataEnd X hP d_Log_putData_1 ?_
  refine lv_istore_n hx hb d_Log_putData_4 rfl hl (by decide) rfl (fun ls hl => ?_)
  have hl : lv_has ls 3 [(2, .int (g.1 9)), (0, .ref (ad 5)), (1, .ref (ad 32))] := hl
  refine lv_aload_n hx hb d_Log_putData_5 rfl (lv_at hl 1 rfl) ?_
  refine lv_aload_n hx hb d_Log_putData_6 rfl (lv_at hl 1 rfl) ?_
  refine lv_iload_n hx hb d_Log_putData_7 rfl (lv_at hl 0 rfl) ?_
  obtain ⟨v4, e1, h⟩ := bd_some h
  refine fx_i X (fx_runV (As := [.int (g.1 9)]) X (m_Log_isLast e1 _) hP hD kv_Log_109 ⟨Nat.le_of_ble_eq_true rfl, Nat.le_of_ble_eq_true rfl⟩ 5 rfl rfl rfl hl.1 rfl (Nat.le_of_ble_eq_true rfl) d_Log_putData_8) hD hS (fun H locs hP hD hS => ?_)
  refine lv_if_eq (tgt := 21) hx hb d_Log_putData_11 (by decide) (fun hc => ?_) (fun hc => ?_)
  · have h := if_t hc h
    refine lv_iload_n hx hb d_Log_putData_21 rfl (lv_at hl 0 rfl) ?_
    refine lv_iconst (v := 1) hx hb d_Log_putData_22 (by decide) ?_
    refine lv_iadd hx hb d_Log_putData_23 ?_
    exact v_Log_putData_24_21 X  hP hD hS (lv_sub hl [1, 2, 0] rfl) h
  · have h := if_f hc h
    refine lv_aload_n hx hb d_Log_putData_14 rfl (lv_at hl 1 rfl) ?_
    obtain ⟨p5, e1, h⟩ := bd_some h
    refine fx_i X (fx_runV (As := []) X (m_Log_openSegment e1 _) hP hD kv_Log_94 ⟨Nat.le_of_ble_eq_true rfl, Nat.le_of_ble_eq_true rfl⟩ 5 rfl rfl rfl hl.1 rfl (Nat.le_of_ble_eq_true rfl) d_Log_putData_15) hD hS (fun H locs hP hD hS => ?_)
    refine lv_goto (tgt := 24) hx hb d_Log_putData_18 (by decide) ?_
    exact v_Log_putData_24_21 X  hP hD hS (lv_sub hl [1, 2, 0] rfl) h
set_option maxHeartbeats 4000000 in
set_option maxRecDepth 100000 in
theorem v_Log_putNode_27_20 {p : Program} {l : Launch} {e : Env} {s : State} {m : MethodId} {args : Array Value} {below : List Frame} {meth : Method} {c : Code} {D : va_G} {ad : Nat → Nat} {ca : Nat → ClassId} {A : Nat → Prop} {FU : Nat} {q : St} (X : FX p s m meth c prog_7_method_21_code 5 none "FlashFiles$Log" D (tyF ca) A) {y1 : Int32} {y3 : Int32} {y4 : Int32} {z0 : Int32} {g : St} {H : Heap} {locs : List Loc} {ls : Array Slot} (hP : va_P D cls (wF ad ca g) H) (hD : va_D A (wF ad ca g)) (hS : va_S A s.heap H locs) (hl : lv_has ls 5 [(0, .ref (ad 5)), (1, .int y1), (2, .ref (ad 31)), (3, .int y3), (4, .int y4)]) (h : Log_putNode_b27 FU 20 y1 y3 y4 z0 g = some q) : W p l e (rmN 3) s m args below meth c H locs 0 0 (MQ below (fxQv D (tyF ca) A (wF ad ca q)) args s 0 0 A) (F0 m 27 ls [.int z0, .ref (ad 5)]) := by
  have hx := X.1
  have hb := X.2.1
  unfold Log_putNode_b27 at h
  obtain ⟨g1, e1, h⟩ := nx_some h
  refine uF_log_nodeEnd X hP hD hS e1 d_Log_putNode_27 (fun H locs hP hD hS => ?_)
  refine lv_aload_n hx hb d_Log_putNode_30 rfl (lv_at hl 2 rfl) ?_
  refine lv_bipush (v := 59) hx hb d_Log_putNode_31 (by decide) ?_
  refine lv_iload_n hx hb d_Log_putNode_33 rfl (lv_at hl 3 rfl) ?_
  obtain ⟨g2, e1, h⟩ := bd_some h
  refine sF_20 X hP hD hS e1 d_Log_putNode_34 (fun H locs hP hD hS => ?_)
  refine lv_aload_n hx hb d_Log_putNode_35 rfl (lv_at hl 2 rfl) ?_
  refine lv_bipush (v := 60) hx hb d_Log_putNode_36 (by decide) ?_
  refine lv_iload_n hx hb d_Log_putNode_38 rfl (lv_at hl 1 rfl) ?_
  obtain ⟨g3, e1, h⟩ := bd_some h
  refine sF_20 X hP hD hS e1 d_Log_putNode_39 (fun H locs hP hD hS => ?_)
  refine lv_aload_n hx hb d_Log_putNode_40 rfl (lv_at hl 2 rfl) ?_
  refine lv_bipush (v := 62) hx hb d_Log_putNode_41 (by decide) ?_
  refine lv_aload_n hx hb d_Log_putNode_43 rfl (lv_at hl 0 rfl) ?_
  refine gF_log_serial X hP d_Log_putNode_44 ?_
  obtain ⟨g4, e1, h⟩ := bd_some h
  refine sF_20 X hP hD hS e1 d_Log_putNode_47 (fun H locs hP hD hS => ?_)
  refine lv_aload_n hx hb d_Log_putNode_48 rfl (lv_at hl 2 rfl) ?_
  refine lv_bipush (v := 63) hx hb d_Log_putNode_49 (by decide) ?_
  refine lv_aload_n hx hb d_Log_putNode_51 rfl (lv_at hl 0 rfl) ?_
  refine gF_log_nodeEnd X hP d_Log_putNode_52 ?_
  obtain ⟨g5, e1, h⟩ := bd_some h
  refine sF_20 X hP hD hS e1 d_Log_putNode_55 (fun H locs hP hD hS => ?_)
  refine lv_aload_n hx hb d_Log_putNode_56 rfl (lv_at hl 0 rfl) ?_
  refine gF_log_device X hP d_Log_putNode_57 ?_
  refine lv_iload hx hb d_Log_putNode_60 (lv_at hl 4 rfl) ?_
  refine lv_aload_n hx hb d_Log_putNode_62 rfl (lv_at hl 2 rfl) ?_
  refine lv_iconst (v := 0) hx hb d_Log_putNode_63 (by decide) ?_
  obtain ⟨p6, e1, h⟩ := bd_some h
  refine fx_v X (fx_runV (As := [.int y4, .ref (ad 31), .int (0 : Int32)]) X (m_Dev_program_20 e1 _) hP hD kv_Log_112 ⟨Nat.le_of_ble_eq_true rfl, Nat.le_of_ble_eq_true rfl⟩ 3 rfl rfl rfl hl.1 rfl (Nat.le_of_ble_eq_true rfl) d_Log_putNode_64) hD hS (fun H locs hP hD hS => ?_)
  refine lv_aload_n hx hb d_Log_putNode_67 rfl (lv_at hl 0 rfl) ?_
  refine lv_iload hx hb d_Log_putNode_68 (lv_at hl 4 rfl) ?_
  refine lv_iconst (v := 1) hx hb d_Log_putNode_70 (by decide) ?_
  obtain ⟨p7, e1, h⟩ := bd_some h
  refine fx_v X (fx_runV (As := [.int y4, .int (1 : Int32)]) X (m_Log_claim e1 _) hP hD kv_Log_116 ⟨Nat.le_of_ble_eq_true rfl, Nat.le_of_ble_eq_true rfl⟩ 5 rfl rfl rfl hl.1 rfl (Nat.le_of_ble_eq_true rfl) d_Log_putNode_71) hD hS (fun H locs hP hD hS => ?_)
  refine lv_aload_n hx hb d_Log_putNode_74 rfl (lv_at hl 0 rfl) ?_
  refine lv_aload_n hx hb d_Log_putNode_75 rfl (lv_at hl 0 rfl) ?_
  refine gF_log_table X hP d_Log_putNode_76 ?_
  refine lv_iload_n hx hb d_Log_putNode_79 rfl (lv_at hl 1 rfl) ?_
  obtain ⟨v8, e1, h⟩ := bd_some h
  refine fx_i X (fx_runV (As := [.int y1]) X (m_Tab_placeOf e1 _) hP hD kv_Log_98 ⟨Nat.le_of_ble_eq_true rfl, Nat.le_of_ble_eq_true rfl⟩ 4 rfl rfl rfl hl.1 rfl (Nat.le_of_ble_eq_true rfl) d_Log_putNode_80) hD hS (fun H locs hP hD hS => ?_)
  obtain ⟨p9, e1, h⟩ := bd_some h
  refine fx_v X (fx_runV (As := [.int v8]) X (m_Log_drop e1 _) hP hD kv_Log_103 ⟨Nat.le_of_ble_eq_true rfl, Nat.le_of_ble_eq_true rfl⟩ 5 rfl rfl rfl hl.1 rfl (Nat.le_of_ble_eq_true rfl) d_Log_putNode_83) hD hS (fun H locs hP hD hS => ?_)
  refine lv_aload_n hx hb d_Log_putNode_86 rfl (lv_at hl 0 rfl) ?_
  refine gF_log_table X hP d_Log_putNode_87 ?_
  refine lv_iload_n hx hb d_Log_putNode_90 rfl (lv_at hl 1 rfl) ?_
  refine lv_iload hx hb d_Log_putNode_91 (lv_at hl 4 rfl) ?_
  obtain ⟨p10, e1, h⟩ := bd_some h
  refine fx_v X (fx_runV (As := [.int y1, .int y4]) X (m_Tab_setPlace e1 _) hP hD kv_Log_106 ⟨Nat.le_of_ble_eq_true rfl, Nat.le_of_ble_eq_true rfl⟩ 4 rfl rfl rfl hl.1 rfl (Nat.le_of_ble_eq_true rfl) d_Log_putNode_93) hD hS (fun H locs hP hD hS => ?_)
  cases h
  exact fx_vret X hP hD hS d_Log_putNode_96
set_option maxHeartbeats 4000000 in
set_option maxRecDepth 100000 in
theorem m_Log_putNode_20 {l : Launch} {D : va_G} {ad : Nat → Nat} {ca : Nat → ClassId} {FU : Nat} {x1 : Int32} {x3 : Int32} {g : St} {q : St} (h : Log_putNode FU 20 x1 x3 g = some q) : CV l ⟨"FlashFiles$Log", "putNode", "(I[II)V"⟩ prog_7_method_21_code 5 3 D (tyF ca) (wF ad ca g) [.ref (ad 5), .int x1, .ref (ad 31), .int x3] (wF ad ca q) := by
  intro sz
  refine Met.fx (Qc := fun A => fxQv D (tyF ca) A (wF ad ca q)) (by decide) (Nat.le_of_ble_eq_true rfl) ?_
  intro p e s m below meth c A ls X hP hD hl
  have hl : lv_has ls 5 [(0, .ref (ad 5)), (1, .int x1), (2, .ref (ad 31)), (3, .int x3)] := hl
  have hS : va_S A s.heap s.heap [] := va_S.rf
  have hx := X.1
  have hb := X.2.1
  unfold Log_putNode at h
  refine lv_aload_n hx hb d_Log_putNode_0 rfl (lv_at hl 0 rfl) ?_
  refine gF_log_nodeEnd X hP d_Log_putNode_1 ?_
  refine lv_istore hx hb d_Log_putNode_4 hl (by decide) rfl (fun ls hl => ?_)
  have hl : lv_has ls 5 [(4, .int (g.1 8)), (0, .ref (ad 5)), (1, .int x1), (2, .ref (ad 31)), (3, .int x3)] := hl
  refine lv_aload_n hx hb d_Log_putNode_6 rfl (lv_at hl 1 rfl) ?_
  refine lv_aload_n hx hb d_Log_putNode_7 rfl (lv_at hl 1 rfl) ?_
  refine lv_iload hx hb d_Log_putNode_8 (lv_at hl 0 rfl) ?_
  obtain ⟨v11, e1, h⟩ := bd_some h
  refine fx_i X (fx_runV (As := [.int (g.1 8)]) X (m_Log_isLast e1 _) hP hD kv_Log_109 ⟨Nat.le_of_ble_eq_true rfl, Nat.le_of_ble_eq_true rfl⟩ 5 rfl rfl rfl hl.1 rfl (Nat.le_of_ble_eq_true rfl) d_Log_putNode_10) hD hS (fun H locs hP hD hS => ?_)
  refine lv_if_eq (tgt := 23) hx hb d_Log_putNode_13 (by decide) (fun hc => ?_) (fun hc => ?_)
  · have h := if_t hc h
    refine lv_iload hx hb d_Log_putNode_23 (lv_at hl 0 rfl) ?_
    refine lv_iconst (v := 1) hx hb d_Log_putNode_25 (by decide) ?_
    refine lv_iadd hx hb d_Log_putNode_26 ?_
    exact v_Log_putNode_27_20 X  hP hD hS (lv_sub hl [1, 2, 3, 4, 0] rfl) h
  · have h := if_f hc h
    refine lv_aload_n hx hb d_Log_putNode_16 rfl (lv_at hl 1 rfl) ?_
    obtain ⟨p12, e1, h⟩ := bd_some h
    refine fx_i X (fx_runV (As := []) X (m_Log_openSegment e1 _) hP hD kv_Log_94 ⟨Nat.le_of_ble_eq_true rfl, Nat.le_of_ble_eq_true rfl⟩ 5 rfl rfl rfl hl.1 rfl (Nat.le_of_ble_eq_true rfl) d_Log_putNode_17) hD hS (fun H locs hP hD hS => ?_)
    refine lv_goto (tgt := 27) hx hb d_Log_putNode_20 (by decide) ?_
    exact v_Log_putNode_27_20 X  hP hD hS (lv_sub hl [1, 2, 3, 4, 0] rfl) h
set_option maxHeartbeats 4000000 in
set_option maxRecDepth 100000 in
theorem v_Log_putData_24_18 {p : Program} {l : Launch} {e : Env} {s : State} {m : MethodId} {args : Array Value} {below : List Frame} {meth : Method} {c : Code} {D : va_G} {ad : Nat → Nat} {ca : Nat → ClassId} {A : Nat → Prop} {FU : Nat} {q : Int32 × St} (X : FX p s m meth c prog_7_method_22_code 3 (some .int) "FlashFiles$Log" D (tyF ca) A) {y2 : Int32} {z0 : Int32} {g : St} {H : Heap} {locs : List Loc} {ls : Array Slot} (hP : va_P D cls (wF ad ca g) H) (hD : va_D A (wF ad ca g)) (hS : va_S A s.heap H locs) (hl : lv_has ls 3 [(0, .ref (ad 5)), (1, .ref (ad 29)), (2, .int y2)]) (h : Log_putData_b24 FU 18 y2 z0 g = some q) : W p l e (rmN 3) s m args below meth c H locs 0 0 (MQ below (fxQi D (tyF ca) A (wF ad ca q.2) q.1) args s 0 0 A) (F0 m 24 ls [.int z0, .ref (ad 5)]) := by
  have hx := X.1
  have hb := X.2.1
  unfold Log_putData_b24 at h
  obtain ⟨g1, e1, h⟩ := nx_some h
  refine uF_log_dataEnd X hP hD hS e1 d_Log_putData_24 (fun H locs hP hD hS => ?_)
  refine lv_aload_n hx hb d_Log_putData_27 rfl (lv_at hl 0 rfl) ?_
  refine gF_log_device X hP d_Log_putData_28 ?_
  refine lv_iload_n hx hb d_Log_putData_31 rfl (lv_at hl 2 rfl) ?_
  refine lv_aload_n hx hb d_Log_putData_32 rfl (lv_at hl 1 rfl) ?_
  refine lv_iconst (v := 0) hx hb d_Log_putData_33 (by decide) ?_
  obtain ⟨p2, e1, h⟩ := bd_some h
  refine fx_v X (fx_runV (As := [.int y2, .ref (ad 29), .int (0 : Int32)]) X (m_Dev_program_18 e1 _) hP hD kv_Log_112 ⟨Nat.le_of_ble_eq_true rfl, Nat.le_of_ble_eq_true rfl⟩ 3 rfl rfl rfl hl.1 rfl (Nat.le_of_ble_eq_true rfl) d_Log_putData_34) hD hS (fun H locs hP hD hS => ?_)
  refine lv_aload_n hx hb d_Log_putData_37 rfl (lv_at hl 0 rfl) ?_
  refine lv_iload_n hx hb d_Log_putData_38 rfl (lv_at hl 2 rfl) ?_
  refine lv_iconst (v := 2) hx hb d_Log_putData_39 (by decide) ?_
  obtain ⟨p3, e1, h⟩ := bd_some h
  refine fx_v X (fx_runV (As := [.int y2, .int (2 : Int32)]) X (m_Log_claim e1 _) hP hD kv_Log_116 ⟨Nat.le_of_ble_eq_true rfl, Nat.le_of_ble_eq_true rfl⟩ 5 rfl rfl rfl hl.1 rfl (Nat.le_of_ble_eq_true rfl) d_Log_putData_40) hD hS (fun H locs hP hD hS => ?_)
  refine lv_iload_n hx hb d_Log_putData_43 rfl (lv_at hl 2 rfl) ?_
  cases h
  exact fx_iret X hP hD hS d_Log_putData_44
set_option maxHeartbeats 4000000 in
set_option maxRecDepth 100000 in
theorem m_Log_putData_18 {l : Launch} {D : va_G} {ad : Nat → Nat} {ca : Nat → ClassId} {FU : Nat} {g : St} {q : Int32 × St} (h : Log_putData FU 18 g = some q) : CI l ⟨"FlashFiles$Log", "putData", "([I)I"⟩ prog_7_method_22_code 3 3 (some .int) D (tyF ca) (wF ad ca g) [.ref (ad 5), .ref (ad 29)] q.1 (wF ad ca q.2) := by
  intro sz
  refine Met.fx (Qc := fun A => fxQi D (tyF ca) A (wF ad ca q.2) q.1) (by decide) (Nat.le_of_ble_eq_true rfl) ?_
  intro p e s m below meth c A ls X hP hD hl
  have hl : lv_has ls 3 [(0, .ref (ad 5)), (1, .ref (ad 29))] := hl
  have hS : va_S A s.heap s.heap [] := va_S.rf
  have hx := X.1
  have hb := X.2.1
  unfold Log_putData at h
  refine lv_aload_n hx hb d_Log_putData_0 rfl (lv_at hl 0 rfl) ?_
  refine gF_log_dataEnd X hP d_Log_putData_1 ?_
  refine lv_istore_n hx hb d_Log_putData_4 rfl hl (by decide) rfl (fun ls hl => ?_)
  have hl : lv_has ls 3 [(2, .int (g.1 9)), (0, .ref (ad 5)), (1, .ref (ad 29))] := hl
  refine lv_aload_n hx hb d_Log_putData_5 rfl (lv_at hl 1 rfl) ?_
  refine lv_aload_n hx hb d_Log_putData_6 rfl (lv_at hl 1 rfl) ?_
  refine lv_iload_n hx hb d_Log_putData_7 rfl (lv_at hl 0 rfl) ?_
  obtain ⟨v4, e1, h⟩ := bd_some h
  refine fx_i X (fx_runV (As := [.int (g.1 9)]) X (m_Log_isLast e1 _) hP hD kv_Log_109 ⟨Nat.le_of_ble_eq_true rfl, Nat.le_of_ble_eq_true rfl⟩ 5 rfl rfl rfl hl.1 rfl (Nat.le_of_ble_eq_true rfl) d_Log_putData_8) hD hS (fun H locs hP hD hS => ?_)
  refine lv_if_eq (tgt := 21) hx hb d_Log_putData_11 (by decide) (fun hc => ?_) (fun hc => ?_)
  · have h := if_t hc h
    refine lv_iload_n hx hb d_Log_putData_21 rfl (lv_at hl 0 rfl) ?_
    refine lv_iconst (v := 1) hx hb d_Log_putData_22 (by decide) ?_
    refine lv_iadd hx hb d_Log_putData_23 ?_
    exact v_Log_putData_24_18 X  hP hD hS (lv_sub hl [1, 2, 0] rfl) h
  · have h := if_f hc h
    refine lv_aload_n hx hb d_Log_putData_14 rfl (lv_at hl 1 rfl) ?_
    obtain ⟨p5, e1, h⟩ := bd_some h
    refine fx_i X (fx_runV (As := []) X (m_Log_openSegment e1 _) hP hD kv_Log_94 ⟨Nat.le_of_ble_eq_true rfl, Nat.le_of_ble_eq_true rfl⟩ 5 rfl rfl rfl hl.1 rfl (Nat.le_of_ble_eq_true rfl) d_Log_putData_15) hD hS (fun H locs hP hD hS => ?_)
    refine lv_goto (tgt := 24) hx hb d_Log_putData_18 (by decide) ?_
    exact v_Log_putData_24_18 X  hP hD hS (lv_sub hl [1, 2, 0] rfl) h
