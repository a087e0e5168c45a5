theorem d_Row_length_0 : decode prog_8_method_2_code 0 = .ok (.aload_n 0, 1) := by decide +kernel
theorem d_Row_length_1 : decode prog_8_method_2_code 1 = .ok (.getfield 15, 3) := by decide +kernel
theorem d_Row_length_4 : decode prog_8_method_2_code 4 = .ok (.ireturn, 1) := by decide +kernel
set_option maxHeartbeats 4000000 in
set_option maxRecDepth 100000 in
theorem m_Row_length_0 {l : Launch} {D : va_G} {ad : Nat → Nat} {ca : Nat → ClassId} {FU : Nat} {g : St} {q : Int32} (h : Row_length FU 0 g = some q) : CI l ⟨"FlashFiles$Row", "length", "()I"⟩ prog_8_method_2_code 1 1 (some .int) D (tyF ca) (wF ad ca g) [.ref (ad 1)] q (wF ad ca g) := by
  intro sz
  refine Met.fx (Qc := fun A => fxQi D (tyF ca) A (wF ad ca g) q) (by decide) (Nat.le_of_ble_eq_true rfl) ?_
  intro p e s m below meth c A ls X hP hD hl
  have hl : lv_has ls 1 [(0, .ref (ad 1))] := hl
  have hS : va_S A s.heap s.heap [] := va_S.rf
  have hx := X.1
  have hb := X.2.1
  unfold Row_length at h
  refine lv_aload_n hx hb d_Row_length_0 rfl (lv_at hl 0 rfl) ?_
  refine gF_row0_length X hP d_Row_length_1 ?_
  cases h
  exact fx_iret X hP hD hS d_Row_length_4
theorem d_Row_setLength_0 : decode prog_8_method_4_code 0 = .ok (.aload_n 0, 1) := by decide +kernel
theorem d_Row_setLength_1 : decode prog_8_method_4_code 1 = .ok (.iload_n 1, 1) := by decide +kernel
theorem d_Row_setLength_2 : decode prog_8_method_4_code 2 = .ok (.putfield 15, 3) := by decide +kernel
theorem d_Row_setLength_5 : decode prog_8_method_4_code 5 = .ok (.return_, 1) := by decide +kernel
set_option maxHeartbeats 4000000 in
set_option maxRecDepth 100000 in
theorem m_Row_setLength_0 {l : Launch} {D : va_G} {ad : Nat → Nat} {ca : Nat → ClassId} {FU : Nat} {x1 : Int32} {g : St} {q : St} (h : Row_setLength FU 0 x1 g = some q) : CV l ⟨"FlashFiles$Row", "setLength", "(I)V"⟩ prog_8_method_4_code 2 1 D (tyF ca) (wF ad ca g) [.ref (ad 1), .int x1] (wF ad ca q) := by
  intro sz
  refine Met.fx (Qc := fun A => fxQv D (tyF ca) A (wF ad ca q)) (by decide) (Nat.le_of_ble_eq_true rfl) ?_
  intro p e s m below meth c A ls X hP hD hl
  have hl : lv_has ls 2 [(0, .ref (ad 1)), (1, .int x1)] := hl
  have hS : va_S A s.heap s.heap [] := va_S.rf
  have hx := X.1
  have hb := X.2.1
  unfold Row_setLength at h
  refine lv_aload_n hx hb d_Row_setLength_0 rfl (lv_at hl 0 rfl) ?_
  refine lv_iload_n hx hb d_Row_setLength_1 rfl (lv_at hl 1 rfl) ?_
  obtain ⟨g1, e1, h⟩ := nx_some h
  refine uF_row0_length X hP hD hS e1 d_Row_setLength_2 (fun H locs hP hD hS => ?_)
  cases h
  exact fx_vret X hP hD hS d_Row_setLength_5
theorem d_Row_at_0 : decode prog_8_method_3_code 0 = .ok (.iload_n 1, 1) := by decide +kernel
theorem d_Row_at_1 : decode prog_8_method_3_code 1 = .ok (.ifCond .lt 12, 3) := by decide +kernel
theorem d_Row_at_4 : decode prog_8_method_3_code 4 = .ok (.iload_n 1, 1) := by decide +kernel
theorem d_Row_at_5 : decode prog_8_method_3_code 5 = .ok (.aload_n 0, 1) := by decide +kernel
theorem d_Row_at_6 : decode prog_8_method_3_code 6 = .ok (.getfield 9, 3) := by decide +kernel
theorem d_Row_at_9 : decode prog_8_method_3_code 9 = .ok (.arraylength, 1) := by decide +kernel
theorem d_Row_at_10 : decode prog_8_method_3_code 10 = .ok (.if_icmp .lt 7, 3) := by decide +kernel
theorem d_Row_at_13 : decode prog_8_method_3_code 13 = .ok (.iconst 0, 1) := by decide +kernel
theorem d_Row_at_14 : decode prog_8_method_3_code 14 = .ok (.goto 9, 3) := by decide +kernel
theorem d_Row_at_17 : decode prog_8_method_3_code 17 = .ok (.aload_n 0, 1) := by decide +kernel
theorem d_Row_at_18 : decode prog_8_method_3_code 18 = .ok (.getfield 9, 3) := by decide +kernel
theorem d_Row_at_21 : decode prog_8_method_3_code 21 = .ok (.iload_n 1, 1) := by decide +kernel
theorem d_Row_at_22 : decode prog_8_method_3_code 22 = .ok (.iaload, 1) := by decide +kernel
theorem d_Row_at_23 : decode prog_8_method_3_code 23 = .ok (.ireturn, 1) := by decide +kernel
set_option maxHeartbeats 4000000 in
set_option maxRecDepth 100000 in
theorem m_Row_at_0 {l : Launch} {D : va_G} {ad : Nat → Nat} {ca : Nat → ClassId} {FU : Nat} {x1 : Int32} {g : St} {q : Int32} (h : Row_at FU 0 x1 g = some q) : CI l ⟨"FlashFiles$Row", "at", "(I)I"⟩ prog_8_method_3_code 2 1 (some .int) D (tyF ca) (wF ad ca g) [.ref (ad 1), .int x1] q (wF ad ca g) := by
  intro sz
  refine Met.fx (Qc := fun A => fxQi D (tyF ca) A (wF ad ca g) q) (by decide) (Nat.le_of_ble_eq_true rfl) ?_
  intro p e s m below meth c A ls X hP hD hl
  have hl : lv_has ls 2 [(0, .ref (ad 1)), (1, .int x1)] := hl
  have hS : va_S A s.heap s.heap [] := va_S.rf
  have hx := X.1
  have hb := X.2.1
  unfold Row_at at h
  refine lv_iload_n hx hb d_Row_at_0 rfl (lv_at hl 1 rfl) ?_
  refine lv_if_lt (tgt := 13) hx hb d_Row_at_1 (by decide) (fun hc => ?_) (fun hc => ?_)
  · have h := if_t hc h
    refine lv_iconst (v := 0) hx hb d_Row_at_13 (by decide) ?_
    refine lv_goto (tgt := 23) hx hb d_Row_at_14 (by decide) ?_
    cases h
    exact fx_iret X hP hD hS d_Row_at_23
  · have h := if_f hc h
    refine lv_iload_n hx hb d_Row_at_4 rfl (lv_at hl 1 rfl) ?_
    refine lv_aload_n hx hb d_Row_at_5 rfl (lv_at hl 0 rfl) ?_
    refine gF_row0_bytes X hP d_Row_at_6 ?_
    refine va_alen (v := (nI (lenF 0))) hx hb X.2.2.2.2.2.2.2.1 hP 11 0 rfl rfl rfl d_Row_at_9 ?_
    refine lv_icmp_lt (tgt := 17) hx hb d_Row_at_10 (by decide) (fun hc => ?_) (fun hc => ?_)
    · have h := if_t hc h
      refine lv_aload_n hx hb d_Row_at_17 rfl (lv_at hl 0 rfl) ?_
      refine gF_row0_bytes X hP d_Row_at_18 ?_
      refine lv_iload_n hx hb d_Row_at_21 rfl (lv_at hl 1 rfl) ?_
      obtain ⟨v1, e1, h⟩ := bd_some h
      refine rF_0 X hP e1 d_Row_at_22 ?_
      cases h
      exact fx_iret X hP hD hS d_Row_at_23
    · have h := if_f hc h
      refine lv_iconst (v := 0) hx hb d_Row_at_13 (by decide) ?_
      refine lv_goto (tgt := 23) hx hb d_Row_at_14 (by decide) ?_
      cases h
      exact fx_iret X hP hD hS d_Row_at_23
set_option maxHeartbeats 4000000 in
set_option maxRecDepth 100000 in
theorem m_Row_length_1 {l : Launch} {D : va_G} {ad : Nat → Nat} {ca : Nat → ClassId} {FU : Nat} {g : St} {q : Int32} (h : Row_length FU 1 g = some q) : CI l ⟨"FlashFiles$Row", "length", "()I"⟩ prog_8_method_2_code 1 1 (some .int) D (tyF ca) (wF ad ca g) [.ref (ad 2)] q (wF ad ca g) := by
  intro sz
  refine Met.fx (Qc := fun A => fxQi D (tyF ca) A (wF ad ca g) q) (by decide) (Nat.le_of_ble_eq_true rfl) ?_
  intro p e s m below meth c A ls X hP hD hl
  have hl : lv_has ls 1 [(0, .ref (ad 2))] := hl
  have hS : va_S A s.heap s.heap [] := va_S.rf
  have hx := X.1
  have hb := X.2.1
  unfold Row_length at h
  refine lv_aload_n hx hb d_Row_length_0 rfl (lv_at hl 0 rfl) ?_
  refine gF_row1_length X hP d_Row_length_1 ?_
  cases h
  exact fx_iret X hP hD hS d_Row_length_4
set_option maxHeartbeats 4000000 in
set_option maxRecDepth 100000 in
theorem m_Row_setLength_1 {l : Launch} {D : va_G} {ad : Nat → Nat} {ca : Nat → ClassId} {FU : Nat} {x1 : Int32} {g : St} {q : St} (h : Row_setLength FU 1 x1 g = some q) : CV l ⟨"FlashFiles$Row", "setLength", "(I)V"⟩ prog_8_method_4_code 2 1 D (tyF ca) (wF ad ca g) [.ref (ad 2), .int x1] (wF ad ca q) := by
  intro sz
  refine Met.fx (Qc := fun A => fxQv D (tyF ca) A (wF ad ca q)) (by decide) (Nat.le_of_ble_eq_true rfl) ?_
  intro p e s m below meth c A ls X hP hD hl
  have hl : lv_has ls 2 [(0, .ref (ad 2)), (1, .int x1)] := hl
  have hS : va_S A s.heap s.heap [] := va_S.rf
  have hx := X.1
  have hb := X.2.1
  unfold Row_setLength at h
  refine lv_aload_n hx hb d_Row_setLength_0 rfl (lv_at hl 0 rfl) ?_
  refine lv_iload_n hx hb d_Row_setLength_1 rfl (lv_at hl 1 rfl) ?_
  obtain ⟨g1, e1, h⟩ := nx_some h
  refine uF_row1_length X hP hD hS e1 d_Row_setLength_2 (fun H locs hP hD hS => ?_)
  cases h
  exact fx_vret X hP hD hS d_Row_setLength_5
set_option maxHeartbeats 4000000 in
set_option maxRecDepth 100000 in
theorem m_Row_at_1 {l : Launch} {D : va_G} {ad : Nat → Nat} {ca : Nat → ClassId} {FU : Nat} {x1 : Int32} {g : St} {q : Int32} (h : Row_at FU 1 x1 g = some q) : CI l ⟨"FlashFiles$Row", "at", "(I)I"⟩ prog_8_method_3_code 2 1 (some .int) D (tyF ca) (wF ad ca g) [.ref (ad 2), .int x1] q (wF ad ca g) := by
  intro sz
  refine Met.fx (Qc := fun A => fxQi D (tyF ca) A (wF ad ca g) q) (by decide) (Nat.le_of_ble_eq_true rfl) ?_
  intro p e s m below meth c A ls X hP hD hl
  have hl : lv_has ls 2 [(0, .ref (ad 2)), (1, .int x1)] := hl
  have hS : va_S A s.heap s.heap [] := va_S.rf
  have hx := X.1
  have hb := X.2.1
  unfold Row_at at h
  refine lv_iload_n hx hb d_Row_at_0 rfl (lv_at hl 1 rfl) ?_
  refine lv_if_lt (tgt := 13) hx hb d_Row_at_1 (by decide) (fun hc => ?_) (fun hc => ?_)
  · have h := if_t hc h
    refine lv_iconst (v := 0) hx hb d_Row_at_13 (by decide) ?_
    refine lv_goto (tgt := 23) hx hb d_Row_at_14 (by decide) ?_
    cases h
    exact fx_iret X hP hD hS d_Row_at_23
  · have h := if_f hc h
    refine lv_iload_n hx hb d_Row_at_4 rfl (lv_at hl 1 rfl) ?_
    refine lv_aload_n hx hb d_Row_at_5 rfl (lv_at hl 0 rfl) ?_
    refine gF_row1_bytes X hP d_Row_at_6 ?_
    refine va_alen (v := (nI (lenF 1))) hx hb X.2.2.2.2.2.2.2.1 hP 12 1 rfl rfl rfl d_Row_at_9 ?_
    refine lv_icmp_lt (tgt := 17) hx hb d_Row_at_10 (by decide) (fun hc => ?_) (fun hc => ?_)
    · have h := if_t hc h
      refine lv_aload_n hx hb d_Row_at_17 rfl (lv_at hl 0 rfl) ?_
      refine gF_row1_bytes X hP d_Row_at_18 ?_
      refine lv_iload_n hx hb d_Row_at_21 rfl (lv_at hl 1 rfl) ?_
      obtain ⟨v1, e1, h⟩ := bd_some h
      refine rF_1 X hP e1 d_Row_at_22 ?_
      cases h
      exact fx_iret X hP hD hS d_Row_at_23
    · have h := if_f hc h
      refine lv_iconst (v := 0) hx hb d_Row_at_13 (by decide) ?_
      refine lv_goto (tgt := 23) hx hb d_Row_at_14 (by decide) ?_
      cases h
      exact fx_iret X hP hD hS d_Row_at_23
theorem d_Row_add_0 : decode prog_8_method_5_code 0 = .ok (.aload_n 0, 1) := by decide +kernel
theorem d_Row_add_1 : decode prog_8_method_5_code 1 = .ok (.getfield 15, 3) := by decide +kernel
theorem d_Row_add_4 : decode prog_8_method_5_code 4 = .ok (.aload_n 0, 1) := by decide +kernel
theorem d_Row_add_5 : decode prog_8_method_5_code 5 = .ok (.getfield 9, 3) := by decide +kernel
theorem d_Row_add_8 : decode prog_8_method_5_code 8 = .ok (.arraylength, 1) := by decide +kernel
theorem d_Row_add_9 : decode prog_8_method_5_code 9 = .ok (.if_icmp .ge 27, 3) := by decide +kernel
theorem d_Row_add_12 : decode prog_8_method_5_code 12 = .ok (.aload_n 0, 1) := by decide +kernel
theorem d_Row_add_13 : decode prog_8_method_5_code 13 = .ok (.getfield 9, 3) := by decide +kernel
theorem d_Row_add_16 : decode prog_8_method_5_code 16 = .ok (.aload_n 0, 1) := by decide +kernel
theorem d_Row_add_17 : decode prog_8_method_5_code 17 = .ok (.getfield 15, 3) := by decide +kernel
theorem d_Row_add_20 : decode prog_8_method_5_code 20 = .ok (.iload_n 1, 1) := by decide +kernel
theorem d_Row_add_21 : decode prog_8_method_5_code 21 = .ok (.sipush 255, 3) := by decide +kernel
theorem d_Row_add_24 : decode prog_8_method_5_code 24 = .ok (.iand, 1) := by decide +kernel
theorem d_Row_add_25 : decode prog_8_method_5_code 25 = .ok (.iastore, 1) := by decide +kernel
theorem d_Row_add_26 : decode prog_8_method_5_code 26 = .ok (.aload_n 0, 1) := by decide +kernel
theorem d_Row_add_27 : decode prog_8_method_5_code 27 = .ok (.dup, 1) := by decide +kernel
theorem d_Row_add_28 : decode prog_8_method_5_code 28 = .ok (.getfield 15, 3) := by decide +kernel
theorem d_Row_add_31 : decode prog_8_method_5_code 31 = .ok (.iconst 1, 1) := by decide +kernel
theorem d_Row_add_32 : decode prog_8_method_5_code 32 = .ok (.iadd, 1) := by decide +kernel
theorem d_Row_add_33 : decode prog_8_method_5_code 33 = .ok (.putfield 15, 3) := by decide +kernel
theorem d_Row_add_36 : decode prog_8_method_5_code 36 = .ok (.return_, 1) := by decide +kernel
set_option maxHeartbeats 4000000 in
set_option maxRecDepth 100000 in
theorem m_Row_add_0 {l : Launch} {D : va_G} {ad : Nat → Nat} {ca : Nat → ClassId} {FU : Nat} {x1 : Int32} {g : St} {q : St} (h : Row_add FU 0 x1 g = some q) : CV l ⟨"FlashFiles$Row", "add", "(I)V"⟩ prog_8_method_5_code 2 1 D (tyF ca) (wF ad ca g) [.ref (ad 1), .int x1] (wF ad ca q) := by
  intro sz
  refine Met.fx (Qc := fun A => fxQv D (tyF ca) A (wF ad ca q)) (by decide) (Nat.le_of_ble_eq_true rfl) ?_
  intro p e s m below meth c A ls X hP hD hl
  have hl : lv_has ls 2 [(0, .ref (ad 1)), (1, .int x1)] := hl
  have hS : va_S A s.heap s.heap [] := va_S.rf
  have hx := X.1
  have hb := X.2.1
  unfold Row_add at h
  refine lv_aload_n hx hb d_Row_add_0 rfl (lv_at hl 0 rfl) ?_
  refine gF_row0_length X hP d_Row_add_1 ?_
  refine lv_aload_n hx hb d_Row_add_4 rfl (lv_at hl 0 rfl) ?_
  refine gF_row0_bytes X hP d_Row_add_5 ?_
  refine va_alen (v := (nI (lenF 0))) hx hb X.2.2.2.2.2.2.2.1 hP 11 0 rfl rfl rfl d_Row_add_8 ?_
  refine lv_icmp_ge (tgt := 36) hx hb d_Row_add_9 (by decide) (fun hc => ?_) (fun hc => ?_)
  · have h := if_t hc h
    cases h
    exact fx_vret X hP hD hS d_Row_add_36
  · have h := if_f hc h
    refine lv_aload_n hx hb d_Row_add_12 rfl (lv_at hl 0 rfl) ?_
    refine gF_row0_bytes X hP d_Row_add_13 ?_
    refine lv_aload_n hx hb d_Row_add_16 rfl (lv_at hl 0 rfl) ?_
    refine gF_row0_length X hP d_Row_add_17 ?_
    refine lv_iload_n hx hb d_Row_add_20 rfl (lv_at hl 1 rfl) ?_
    refine lv_sipush (v := 255) hx hb d_Row_add_21 (by decide) ?_
    refine lv_iand hx hb d_Row_add_24 ?_
    obtain ⟨g1, e1, h⟩ := bd_some h
    refine sF_0 X hP hD hS e1 d_Row_add_25 (fun H locs hP hD hS => ?_)
    refine lv_aload_n hx hb d_Row_add_26 rfl (lv_at hl 0 rfl) ?_
    refine lv_dup hx hb d_Row_add_27 rfl ?_
    refine gF_row0_length X hP d_Row_add_28 ?_
    refine lv_iconst (v := 1) hx hb d_Row_add_31 (by decide) ?_
    refine lv_iadd hx hb d_Row_add_32 ?_
    obtain ⟨g2, e1, h⟩ := nx_some h
    refine uF_row0_length X hP hD hS e1 d_Row_add_33 (fun H locs hP hD hS => ?_)
    cases h
    exact fx_vret X hP hD hS d_Row_add_36
theorem d_Row_addWord_0 : decode prog_8_method_6_code 0 = .ok (.bipush 24, 2) := by decide +kernel
theorem d_Row_addWord_2 : decode prog_8_method_6_code 2 = .ok (.istore_n 2, 1) := by decide +kernel
theorem d_Row_addWord_3 : decode prog_8_method_6_code 3 = .ok (.iload_n 2, 1) := by decide +kernel
theorem d_Row_addWord_4 : decode prog_8_method_6_code 4 = .ok (.ifCond .lt 16, 3) := by decide +kernel
theorem d_Row_addWord_7 : decode prog_8_method_6_code 7 = .ok (.aload_n 0, 1) := by decide +kernel
theorem d_Row_addWord_8 : decode prog_8_method_6_code 8 = .ok (.iload_n 1, 1) := by decide +kernel
theorem d_Row_addWord_9 : decode prog_8_method_6_code 9 = .ok (.iload_n 2, 1) := by decide +kernel
theorem d_Row_addWord_10 : decode prog_8_method_6_code 10 = .ok (.iushr, 1) := by decide +kernel
theorem d_Row_addWord_11 : decode prog_8_method_6_code 11 = .ok (.invokevirtual 19, 3) := by decide +kernel
theorem d_Row_addWord_14 : decode prog_8_method_6_code 14 = .ok (.iinc 2 (-8), 3) := by decide +kernel
theorem d_Row_addWord_17 : decode prog_8_method_6_code 17 = .ok (.goto (-14), 3) := by decide +kernel
theorem d_Row_addWord_20 : decode prog_8_method_6_code 20 = .ok (.return_, 1) := by decide +kernel
set_option maxHeartbeats 4000000 in
set_option maxRecDepth 100000 in
theorem v_Row_addWord_3_0 {p : Program} {l : Launch} {e : Env} {s : State} {m : MethodId} {args : Array Value} {below : List Frame} {meth : Method} {c : Code} {D : va_G} {ad : Nat → Nat} {ca : Nat → ClassId} {A : Nat → Prop} {FU : Nat} {q : St} (X : FX p s m meth c prog_8_method_6_code 3 none "FlashFiles$Row" D (tyF ca) A) : ∀ (n : Nat), ∀ (y1 y2 : Int32) (g : St) (H : Heap) (locs : List Loc) (ls : Array Slot), va_P D cls (wF ad ca g) H → va_D A (wF ad ca g) → va_S A s.heap H locs → lv_has ls 3 [(0, .ref (ad 1)), (1, .int y1), (2, .int y2)] → Row_addWord_b3 FU 0 n y1 y2 g = some q → W p l e (rmN 2) s m args below meth c H locs 0 0 (MQ below (fxQv D (tyF ca) A (wF ad ca q)) args s 0 0 A) (F0 m 3 ls []) := by
  have hx := X.1
  have hb := X.2.1
  intro n
  induction n with
  | zero =>
    intro y1 y2 g H locs ls hP hD hS hl h
    cases h
  | succ n ih =>
    intro y1 y2 g H locs ls hP hD hS hl h
    have h := h
    rw [Row_addWord_b3.eq_2] at h
    refine lv_iload_n hx hb d_Row_addWord_3 rfl (lv_at hl 2 rfl) ?_
    refine lv_if_lt (tgt := 20) hx hb d_Row_addWord_4 (by decide) (fun hc => ?_) (fun hc => ?_)
    · have h := if_t hc h
      cases h
      exact fx_vret X hP hD hS d_Row_addWord_20
    · have h := if_f hc h
      refine lv_aload_n hx hb d_Row_addWord_7 rfl (lv_at hl 0 rfl) ?_
      refine lv_iload_n hx hb d_Row_addWord_8 rfl (lv_at hl 1 rfl) ?_
      refine lv_iload_n hx hb d_Row_addWord_9 rfl (lv_at hl 2 rfl) ?_
      refine lv_iushr (v := ush y1 y2) hx hb d_Row_addWord_10 rfl ?_
      obtain ⟨p1, e1, h⟩ := bd_some h
      refine fx_v X (fx_runV (As := [.int (ush y1 y2)]) X (m_Row_add_0 e1 _) hP hD kv_Row_19 ⟨Nat.le_of_ble_eq_true rfl, Nat.le_of_ble_eq_true rfl⟩ 1 rfl rfl rfl hl.1 rfl (Nat.le_of_ble_eq_true rfl) d_Row_addWord_11) hD hS (fun H locs hP hD hS => ?_)
      refine lv_iinc (k := 2) (v := (y2 + (-8 : Int32))) hx hb d_Row_addWord_14 hl rfl (oi_m8 _) (by decide) rfl (fun ls hl => ?_)
      have hl : lv_has ls 3 [(2, .int (y2 + (-8 : Int32))), (0, .ref (ad 1)), (1, .int y1)] := hl
      refine lv_goto (tgt := 3) hx hb d_Row_addWord_17 (by decide) ?_
      exact ih _ _ _ _ _ _ hP hD hS (lv_sub hl [1, 2, 0] rfl) h
set_option maxHeartbeats 4000000 in
set_option maxRecDepth 100000 in
theorem m_Row_addWord_0 {l : Launch} {D : va_G} {ad : Nat → Nat} {ca : Nat → ClassId} {FU : Nat} {x1 : Int32} {g : St} {q : St} (h : Row_addWord FU 0 x1 g = some q) : CV l ⟨"FlashFiles$Row", "addWord", "(I)V"⟩ prog_8_method_6_code 3 2 D (tyF ca) (wF ad ca g) [.ref (ad 1), .int x1] (wF ad ca q) := by
  intro sz
  refine Met.fx (Qc := fun A => fxQv D (tyF ca) A (wF ad ca q)) (by decide) (Nat.le_of_ble_eq_true rfl) ?_
  intro p e s m below meth c A ls X hP hD hl
  have hl : lv_has ls 3 [(0, .ref (ad 1)), (1, .int x1)] := hl
  have hS : va_S A s.heap s.heap [] := va_S.rf
  have hx := X.1
  have hb := X.2.1
  unfold Row_addWord at h
  refine lv_bipush (v := 24) hx hb d_Row_addWord_0 (by decide) ?_
  refine lv_istore_n hx hb d_Row_addWord_2 rfl hl (by decide) rfl (fun ls hl => ?_)
  have hl : lv_has ls 3 [(2, .int (24 : Int32)), (0, .ref (ad 1)), (1, .int x1)] := hl
  exact v_Row_addWord_3_0 X  _ _ _ _ _ _ _ hP hD hS (lv_sub hl [1, 2, 0] rfl) h
theorem d_Row_packName_0 : decode prog_8_method_7_code 0 = .ok (.iload_n 2, 1) := by decide +kernel
theorem d_Row_packName_1 : decode prog_8_method_7_code 1 = .ok (.iconst 1, 1) := by decide +kernel
theorem d_Row_packName_2 : decode prog_8_method_7_code 2 = .ok (.if_icmp .lt 19, 3) := by decide +kernel
theorem d_Row_packName_5 : decode prog_8_method_7_code 5 = .ok (.iload_n 2, 1) := by decide +kernel
theorem d_Row_packName_6 : decode prog_8_method_7_code 6 = .ok (.bipush 20, 2) := by decide +kernel
theorem d_Row_packName_8 : decode prog_8_method_7_code 8 = .ok (.if_icmp .gt 13, 3) := by decide +kernel
theorem d_Row_packName_11 : decode prog_8_method_7_code 11 = .ok (.iload_n 1, 1) := by decide +kernel
theorem d_Row_packName_12 : decode prog_8_method_7_code 12 = .ok (.aload_n 0, 1) := by decide +kernel
theorem d_Row_packName_13 : decode prog_8_method_7_code 13 = .ok (.getfield 15, 3) := by decide +kernel
theorem d_Row_packName_16 : decode prog_8_method_7_code 16 = .ok (.iload_n 2, 1) := by decide +kernel
theorem d_Row_packName_17 : decode prog_8_method_7_code 17 = .ok (.isub, 1) := by decide +kernel
theorem d_Row_packName_18 : decode prog_8_method_7_code 18 = .ok (.if_icmp .le 5, 3) := by decide +kernel
theorem d_Row_packName_21 : decode prog_8_method_7_code 21 = .ok (.iconst 0, 1) := by decide +kernel
theorem d_Row_packName_22 : decode prog_8_method_7_code 22 = .ok (.ireturn, 1) := by decide +kernel
theorem d_Row_packName_23 : decode prog_8_method_7_code 23 = .ok (.aload_n 3, 1) := by decide +kernel
theorem d_Row_packName_24 : decode prog_8_method_7_code 24 = .ok (.iconst 0, 1) := by decide +kernel
theorem d_Row_packName_25 : decode prog_8_method_7_code 25 = .ok (.invokestatic 23, 3) := by decide +kernel
theorem d_Row_packName_28 : decode prog_8_method_7_code 28 = .ok (.iconst 0, 1) := by decide +kernel
theorem d_Row_packName_29 : decode prog_8_method_7_code 29 = .ok (.istore 4, 2) := by decide +kernel
theorem d_Row_packName_31 : decode prog_8_method_7_code 31 = .ok (.iload 4, 2) := by decide +kernel
theorem d_Row_packName_33 : decode prog_8_method_7_code 33 = .ok (.iload_n 2, 1) := by decide +kernel
theorem d_Row_packName_34 : decode prog_8_method_7_code 34 = .ok (.if_icmp .ge 42, 3) := by decide +kernel
theorem d_Row_packName_37 : decode prog_8_method_7_code 37 = .ok (.aload_n 0, 1) := by decide +kernel
theorem d_Row_packName_38 : decode prog_8_method_7_code 38 = .ok (.iload_n 1, 1) := by decide +kernel
theorem d_Row_packName_39 : decode prog_8_method_7_code 39 = .ok (.iload 4, 2) := by decide +kernel
theorem d_Row_packName_41 : decode prog_8_method_7_code 41 = .ok (.iadd, 1) := by decide +kernel
theorem d_Row_packName_42 : decode prog_8_method_7_code 42 = .ok (.invokevirtual 29, 3) := by decide +kernel
theorem d_Row_packName_45 : decode prog_8_method_7_code 45 = .ok (.istore 5, 2) := by decide +kernel
theorem d_Row_packName_47 : decode prog_8_method_7_code 47 = .ok (.iload 5, 2) := by decide +kernel
theorem d_Row_packName_49 : decode prog_8_method_7_code 49 = .ok (.ifCond .eq 10, 3) := by decide +kernel
theorem d_Row_packName_52 : decode prog_8_method_7_code 52 = .ok (.iload 5, 2) := by decide +kernel
theorem d_Row_packName_54 : decode prog_8_method_7_code 54 = .ok (.bipush 47, 2) := by decide +kernel
theorem d_Row_packName_56 : decode prog_8_method_7_code 56 = .ok (.if_icmp .ne 5, 3) := by decide +kernel
theorem d_Row_packName_59 : decode prog_8_method_7_code 59 = .ok (.iconst 0, 1) := by decide +kernel
theorem d_Row_packName_60 : decode prog_8_method_7_code 60 = .ok (.ireturn, 1) := by decide +kernel
theorem d_Row_packName_61 : decode prog_8_method_7_code 61 = .ok (.aload_n 3, 1) := by decide +kernel
theorem d_Row_packName_62 : decode prog_8_method_7_code 62 = .ok (.iconst 0, 1) := by decide +kernel
theorem d_Row_packName_63 : decode prog_8_method_7_code 63 = .ok (.iload 4, 2) := by decide +kernel
theorem d_Row_packName_65 : decode prog_8_method_7_code 65 = .ok (.iload 5, 2) := by decide +kernel
theorem d_Row_packName_67 : decode prog_8_method_7_code 67 = .ok (.invokestatic 33, 3) := by decide +kernel
theorem d_Row_packName_70 : decode prog_8_method_7_code 70 = .ok (.iinc 4 1, 3) := by decide +kernel
theorem d_Row_packName_73 : decode prog_8_method_7_code 73 = .ok (.goto (-42), 3) := by decide +kernel
theorem d_Row_packName_76 : decode prog_8_method_7_code 76 = .ok (.aload_n 3, 1) := by decide +kernel
theorem d_Row_packName_77 : decode prog_8_method_7_code 77 = .ok (.iconst 5, 1) := by decide +kernel
theorem d_Row_packName_78 : decode prog_8_method_7_code 78 = .ok (.iload_n 2, 1) := by decide +kernel
theorem d_Row_packName_79 : decode prog_8_method_7_code 79 = .ok (.iastore, 1) := by decide +kernel
theorem d_Row_packName_80 : decode prog_8_method_7_code 80 = .ok (.iconst 1, 1) := by decide +kernel
theorem d_Row_packName_81 : decode prog_8_method_7_code 81 = .ok (.ireturn, 1) := by decide +kernel
set_option maxHeartbeats 4000000 in
set_option maxRecDepth 100000 in
theorem v_Row_packName_31_0_2 {p : Program} {l : Launch} {e : Env} {s : State} {m : MethodId} {args : Array Value} {below : List Frame} {meth : Method} {c : Code} {D : va_G} {ad : Nat → Nat} {ca : Nat → ClassId} {A : Nat → Prop} {FU : Nat} {q : Int32 × St} (X : FX p s m meth c prog_8_method_7_code 6 (some .boolean) "FlashFiles$Row" D (tyF ca) A) : ∀ (n : Nat), ∀ (y1 y2 y4 : Int32) (g : St) (H : Heap) (locs : List Loc) (ls : Array Slot), va_P D cls (wF ad ca g) H → va_D A (wF ad ca g) → va_S A s.heap H locs → lv_has ls 6 [(0, .ref (ad 1)), (1, .int y1), (2, .int y2), (3, .ref (ad 13)), (4, .int y4)] → Row_packName_b31 FU 0 2 n y1 y2 y4 g = some q → W p l e (rmN 2) s m args below meth c H locs 0 0 (MQ below (fxQi D (tyF ca) A (wF ad ca q.2) q.1) args s 0 0 A) (F0 m 31 ls []) := by
  have hx := X.1
  have hb := X.2.1
  intro n
  induction n with
  | zero =>
    intro y1 y2 y4 g H locs ls hP hD hS hl h
    cases h
  | succ n ih =>
    intro y1 y2 y4 g H locs ls hP hD hS hl h
    have h := h
    rw [Row_packName_b31.eq_2] at h
    refine lv_iload hx hb d_Row_packName_31 (lv_at hl 4 rfl) ?_
    refine lv_iload_n hx hb d_Row_packName_33 rfl (lv_at hl 2 rfl) ?_
    refine lv_icmp_ge (tgt := 76) hx hb d_Row_packName_34 (by decide) (fun hc => ?_) (fun hc => ?_)
    · have h := if_t hc h
      refine lv_aload_n hx hb d_Row_packName_76 rfl (lv_at hl 3 rfl) ?_
      refine lv_iconst (v := 5) hx hb d_Row_packName_77 (by decide) ?_
      refine lv_iload_n hx hb d_Row_packName_78 rfl (lv_at hl 2 rfl) ?_
      obtain ⟨g1, e1, h⟩ := bd_some h
      refine sF_2 X hP hD hS e1 d_Row_packName_79 (fun H locs hP hD hS => ?_)
      refine lv_iconst (v := 1) hx hb d_Row_packName_80 (by decide) ?_
      cases h
      exact fx_zret X hP hD hS (Or.inr rfl) d_Row_packName_81
    · have h := if_f hc h
      refine lv_aload_n hx hb d_Row_packName_37 rfl (lv_at hl 0 rfl) ?_
      refine lv_iload_n hx hb d_Row_packName_38 rfl (lv_at hl 1 rfl) ?_
      refine lv_iload hx hb d_Row_packName_39 (lv_at hl 4 rfl) ?_
      refine lv_iadd hx hb d_Row_packName_41 ?_
      obtain ⟨v2, e1, h⟩ := bd_some h
      refine fx_i X (fx_runV (As := [.int (y1 + y4)]) X (m_Row_at_0 e1 _) hP hD kv_Row_29 ⟨Nat.le_of_ble_eq_true rfl, Nat.le_of_ble_eq_true rfl⟩ 1 rfl rfl rfl hl.1 rfl (Nat.le_of_ble_eq_true rfl) d_Row_packName_42) hD hS (fun H locs hP hD hS => ?_)
      refine lv_istore hx hb d_Row_packName_45 hl (by decide) rfl (fun ls hl => ?_)
      have hl : lv_has ls 6 [(5, .int v2), (0, .ref (ad 1)), (1, .int y1), (2, .int y2), (3, .ref (ad 13)), (4, .int y4)] := hl
      refine lv_iload hx hb d_Row_packName_47 (lv_at hl 0 rfl) ?_
      refine lv_if_eq (tgt := 59) hx hb d_Row_packName_49 (by decide) (fun hc => ?_) (fun hc => ?_)
      · have h := if_t hc h
        refine lv_iconst (v := 0) hx hb d_Row_packName_59 (by decide) ?_
        cases h
        exact fx_zret X hP hD hS (Or.inl rfl) d_Row_packName_60
      · have h := if_f hc h
        refine lv_iload hx hb d_Row_packName_52 (lv_at hl 0 rfl) ?_
        refine lv_bipush (v := 47) hx hb d_Row_packName_54 (by decide) ?_
        refine lv_icmp_ne (tgt := 61) hx hb d_Row_packName_56 (by decide) (fun hc => ?_) (fun hc => ?_)
        · have h := if_f hc h
          refine lv_aload_n hx hb d_Row_packName_61 rfl (lv_at hl 4 rfl) ?_
          refine lv_iconst (v := 0) hx hb d_Row_packName_62 (by decide) ?_
          refine lv_iload hx hb d_Row_packName_63 (lv_at hl 5 rfl) ?_
          refine lv_iload hx hb d_Row_packName_65 (lv_at hl 0 rfl) ?_
          obtain ⟨p3, e1, h⟩ := bd_some h
          refine fx_v X (fx_runN X (m_FF_putByte_2 e1 _) (As := [.ref (ad 13), .int (0 : Int32), .int y4, .int v2]) hP hD kn_Row_33 ⟨Nat.le_of_ble_eq_true rfl, Nat.le_of_ble_eq_true rfl⟩ rfl hl.1 rfl (Nat.le_of_ble_eq_true rfl) d_Row_packName_67) hD hS (fun H locs hP hD hS => ?_)
          refine lv_iinc (k := 5) (v := (y4 + (1 : Int32))) hx hb d_Row_packName_70 hl rfl (oi_1 _) (by decide) rfl (fun ls hl => ?_)
          have hl : lv_has ls 6 [(4, .int (y4 + (1 : Int32))), (5, .int v2), (0, .ref (ad 1)), (1, .int y1), (2, .int y2), (3, .ref (ad 13))] := hl
          refine lv_goto (tgt := 31) hx hb d_Row_packName_73 (by decide) ?_
          exact ih _ _ _ _ _ _ _ hP hD hS (lv_sub hl [2, 3, 4, 5, 0] rfl) h
        · have h := if_t hc h
          refine lv_iconst (v := 0) hx hb d_Row_packName_59 (by decide) ?_
          cases h
          exact fx_zret X hP hD hS (Or.inl rfl) d_Row_packName_60
set_option maxHeartbeats 4000000 in
set_option maxRecDepth 100000 in
theorem m_Row_packName_0_2 {l : Launch} {D : va_G} {ad : Nat → Nat} {ca : Nat → ClassId} {FU : Nat} {x1 : Int32} {x2 : Int32} {g : St} {q : Int32 × St} (h : Row_packName FU 0 2 x1 x2 g = some q) : CI l ⟨"FlashFiles$Row", "packName", "(II[I)Z"⟩ prog_8_method_7_code 6 2 (some .boolean) D (tyF ca) (wF ad ca g) [.ref (ad 1), .int x1, .int x2, .ref (ad 13)] q.1 (wF ad ca q.2) := by
  intro sz
  refine Met.fx (Qc := fun A => fxQi D (tyF ca) A (wF ad ca q.2) q.1) (by decide) (Nat.le_of_ble_eq_true rfl) ?_
  intro p e s m below meth c A ls X hP hD hl
  have hl : lv_has ls 6 [(0, .ref (ad 1)), (1, .int x1), (2, .int x2), (3, .ref (ad 13))] := hl
  have hS : va_S A s.heap s.heap [] := va_S.rf
  have hx := X.1
  have hb := X.2.1
  unfold Row_packName at h
  refine lv_iload_n hx hb d_Row_packName_0 rfl (lv_at hl 2 rfl) ?_
  refine lv_iconst (v := 1) hx hb d_Row_packName_1 (by decide) ?_
  refine lv_icmp_lt (tgt := 21) hx hb d_Row_packName_2 (by decide) (fun hc => ?_) (fun hc => ?_)
  · have h := if_t hc h
    refine lv_iconst (v := 0) hx hb d_Row_packName_21 (by decide) ?_
    cases h
    exact fx_zret X hP hD hS (Or.inl rfl) d_Row_packName_22
  · have h := if_f hc h
    refine lv_iload_n hx hb d_Row_packName_5 rfl (lv_at hl 2 rfl) ?_
    refine lv_bipush (v := 20) hx hb d_Row_packName_6 (by decide) ?_
    refine lv_icmp_gt (tgt := 21) hx hb d_Row_packName_8 (by decide) (fun hc => ?_) (fun hc => ?_)
    · have h := if_t hc h
      refine lv_iconst (v := 0) hx hb d_Row_packName_21 (by decide) ?_
      cases h
      exact fx_zret X hP hD hS (Or.inl rfl) d_Row_packName_22
    · have h := if_f hc h
      refine lv_iload_n hx hb d_Row_packName_11 rfl (lv_at hl 1 rfl) ?_
      refine lv_aload_n hx hb d_Row_packName_12 rfl (lv_at hl 0 rfl) ?_
      refine gF_row0_length X hP d_Row_packName_13 ?_
      refine lv_iload_n hx hb d_Row_packName_16 rfl (lv_at hl 2 rfl) ?_
      refine lv_isub hx hb d_Row_packName_17 ?_
      refine lv_icmp_le (tgt := 23) hx hb d_Row_packName_18 (by decide) (fun hc => ?_) (fun hc => ?_)
      · have h := if_t hc h
        refine lv_aload_n hx hb d_Row_packName_23 rfl (lv_at hl 3 rfl) ?_
        refine lv_iconst (v := 0) hx hb d_Row_packName_24 (by decide) ?_
        obtain ⟨p4, e1, h⟩ := bd_some h
        refine fx_v X (fx_runS X (m_Arr_fill_0_2 e1 _) (As := [.ref (ad 13), .int (0 : Int32)]) hP hD ks_Row_23 ⟨Nat.le_of_ble_eq_true rfl, Nat.le_of_ble_eq_true rfl⟩ rfl hl.1 rfl (Nat.le_of_ble_eq_true rfl) d_Row_packName_25) hD hS (fun H locs hP hD hS => ?_)
        refine lv_iconst (v := 0) hx hb d_Row_packName_28 (by decide) ?_
        refine lv_istore hx hb d_Row_packName_29 hl (by decide) rfl (fun ls hl => ?_)
        have hl : lv_has ls 6 [(4, .int (0 : Int32)), (0, .ref (ad 1)), (1, .int x1), (2, .int x2), (3, .ref (ad 13))] := hl
        exact v_Row_packName_31_0_2 X  _ _ _ _ _ _ _ _ hP hD hS (lv_sub hl [1, 2, 3, 4, 0] rfl) h
      · have h := if_f hc h
        refine lv_iconst (v := 0) hx hb d_Row_packName_21 (by decide) ?_
        cases h
        exact fx_zret X hP hD hS (Or.inl rfl) d_Row_packName_22
set_option maxHeartbeats 4000000 in
set_option maxRecDepth 100000 in
theorem v_Row_packName_31_0_3 {p : Program} {l : Launch} {e : Env} {s : State} {m : MethodId} {args : Array Value} {below : List Frame} {meth : Method} {c : Code} {D : va_G} {ad : Nat → Nat} {ca : Nat → ClassId} {A : Nat → Prop} {FU : Nat} {q : Int32 × St} (X : FX p s m meth c prog_8_method_7_code 6 (some .boolean) "FlashFiles$Row" D (tyF ca) A) : ∀ (n : Nat), ∀ (y1 y2 y4 : Int32) (g : St) (H : Heap) (locs : List Loc) (ls : Array Slot), va_P D cls (wF ad ca g) H → va_D A (wF ad ca g) → va_S A s.heap H locs → lv_has ls 6 [(0, .ref (ad 1)), (1, .int y1), (2, .int y2), (3, .ref (ad 14)), (4, .int y4)] → Row_packName_b31 FU 0 3 n y1 y2 y4 g = some q → W p l e (rmN 2) s m args below meth c H locs 0 0 (MQ below (fxQi D (tyF ca) A (wF ad ca q.2) q.1) args s 0 0 A) (F0 m 31 ls []) := by
  have hx := X.1
  have hb := X.2.1
  intro n
  induction n with
  | zero =>
    intro y1 y2 y4 g H locs ls hP hD hS hl h
    cases h
  | succ n ih =>
    intro y1 y2 y4 g H locs ls hP hD hS hl h
    have h := h
    rw [Row_packName_b31.eq_2] at h
    refine lv_iload hx hb d_Row_packName_31 (lv_at hl 4 rfl) ?_
    refine lv_iload_n hx hb d_Row_packName_33 rfl (lv_at hl 2 rfl) ?_
    refine lv_icmp_ge (tgt := 76) hx hb d_Row_packName_34 (by decide) (fun hc => ?_) (fun hc => ?_)
    · have h := if_t hc h
      refine lv_aload_n hx hb d_Row_packName_76 rfl (lv_at hl 3 rfl) ?_
      refine lv_iconst (v := 5) hx hb d_Row_packName_77 (by decide) ?_
      refine lv_iload_n hx hb d_Row_packName_78 rfl (lv_at hl 2 rfl) ?_
      obtain ⟨g1, e1, h⟩ := bd_some h
      refine sF_3 X hP hD hS e1 d_Row_packName_79 (fun H locs hP hD hS => ?_)
      refine lv_iconst (v := 1) hx hb d_Row_packName_80 (by decide) ?_
      cases h
      exact fx_zret X hP hD hS (Or.inr rfl) d_Row_packName_81
    · have h := if_f hc h
      refine lv_aload_n hx hb d_Row_packName_37 rfl (lv_at hl 0 rfl) ?_
      refine lv_iload_n hx hb d_Row_packName_38 rfl (lv_at hl 1 rfl) ?_
      refine lv_iload hx hb d_Row_packName_39 (lv_at hl 4 rfl) ?_
      refine lv_iadd hx hb d_Row_packName_41 ?_
      obtain ⟨v2, e1, h⟩ := bd_some h
      refine fx_i X (fx_runV (As := [.int (y1 + y4)]) X (m_Row_at_0 e1 _) hP hD kv_Row_29 ⟨Nat.le_of_ble_eq_true rfl, Nat.le_of_ble_eq_true rfl⟩ 1 rfl rfl rfl hl.1 rfl (Nat.le_of_ble_eq_true rfl) d_Row_packName_42) hD hS (fun H locs hP hD hS => ?_)
      refine lv_istore hx hb d_Row_packName_45 hl (by decide) rfl (fun ls hl => ?_)
      have hl : lv_has ls 6 [(5, .int v2), (0, .ref (ad 1)), (1, .int y1), (2, .int y2), (3, .ref (ad 14)), (4, .int y4)] := hl
      refine lv_iload hx hb d_Row_packName_47 (lv_at hl 0 rfl) ?_
      refine lv_if_eq (tgt := 59) hx hb d_Row_packName_49 (by decide) (fun hc => ?_) (fun hc => ?_)
      · have h := if_t hc h
        refine lv_iconst (v := 0) hx hb d_Row_packName_59 (by decide) ?_
        cases h
        exact fx_zret X hP hD hS (Or.inl rfl) d_Row_packName_60
      · have h := if_f hc h
        refine lv_iload hx hb d_Row_packName_52 (lv_at hl 0 rfl) ?_
        refine lv_bipush (v := 47) hx hb d_Row_packName_54 (by decide) ?_
        refine lv_icmp_ne (tgt := 61) hx hb d_Row_packName_56 (by decide) (fun hc => ?_) (fun hc => ?_)
        · have h := if_f hc h
          refine lv_aload_n hx hb d_Row_packName_61 rfl (lv_at hl 4 rfl) ?_
          refine lv_iconst (v := 0) hx hb d_Row_packName_62 (by decide) ?_
          refine lv_iload hx hb d_Row_packName_63 (lv_at hl 5 rfl) ?_
          refine lv_iload hx hb d_Row_packName_65 (lv_at hl 0 rfl) ?_
          obtain ⟨p3, e1, h⟩ := bd_some h
          refine fx_v X (fx_runN X (m_FF_putByte_3 e1 _) (As := [.ref (ad 14), .int (0 : Int32), .int y4, .int v2]) hP hD kn_Row_33 ⟨Nat.le_of_ble_eq_true rfl, Nat.le_of_ble_eq_true rfl⟩ rfl hl.1 rfl (Nat.le_of_ble_eq_true rfl) d_Row_packName_67) hD hS (fun H locs hP hD hS => ?_)
          refine lv_iinc (k := 5) (v := (y4 + (1 : Int32))) hx hb d_Row_packName_70 hl rfl (oi_1 _) (by decide) rfl (fun ls hl => ?_)
          have hl : lv_has ls 6 [(4, .int (y4 + (1 : Int32))), (5, .int v2), (0, .ref (ad 1)), (1, .int y1), (2, .int y2), (3, .ref (ad 14))] := hl
          refine lv_goto (tgt := 31) hx hb d_Row_packName_73 (by decide) ?_
          exact ih _ _ _ _ _ _ _ hP hD hS (lv_sub hl [2, 3, 4, 5, 0] rfl) h
        · have h := if_t hc h
          refine lv_iconst (v := 0) hx hb d_Row_packName_59 (by decide) ?_
          cases h
          exact fx_zret X hP hD hS (Or.inl rfl) d_Row_packName_60
set_option maxHeartbeats 4000000 in
set_option maxRecDepth 100000 in
theorem m_Row_packName_0_3 {l : Launch} {D : va_G} {ad : Nat → Nat} {ca : Nat → ClassId} {FU : Nat} {x1 : Int32} {x2 : Int32} {g : St} {q : Int32 × St} (h : Row_packName FU 0 3 x1 x2 g = some q) : CI l ⟨"FlashFiles$Row", "packName", "(II[I)Z"⟩ prog_8_method_7_code 6 2 (some .boolean) D (tyF ca) (wF ad ca g) [.ref (ad 1), .int x1, .int x2, .ref (ad 14)] q.1 (wF ad ca q.2) := by
  intro sz
  refine Met.fx (Qc := fun A => fxQi D (tyF ca) A (wF ad ca q.2) q.1) (by decide) (Nat.le_of_ble_eq_true rfl) ?_
  intro p e s m below meth c A ls X hP hD hl
  have hl : lv_has ls 6 [(0, .ref (ad 1)), (1, .int x1), (2, .int x2), (3, .ref (ad 14))] := hl
  have hS : va_S A s.heap s.heap [] := va_S.rf
  have hx := X.1
  have hb := X.2.1
  unfold Row_packName at h
  refine lv_iload_n hx hb d_Row_packName_0 rfl (lv_at hl 2 rfl) ?_
  refine lv_iconst (v := 1) hx hb d_Row_packName_1 (by decide) ?_
  refine lv_icmp_lt (tgt := 21) hx hb d_Row_packName_2 (by decide) (fun hc => ?_) (fun hc => ?_)
  · have h := if_t hc h
    refine lv_iconst (v := 0) hx hb d_Row_packName_21 (by decide) ?_
    cases h
    exact fx_zret X hP hD hS (Or.inl rfl) d_Row_packName_22
  · have h := if_f hc h
    refine lv_iload_n hx hb d_Row_packName_5 rfl (lv_at hl 2 rfl) ?_
    refine lv_bipush (v := 20) hx hb d_Row_packName_6 (by decide) ?_
    refine lv_icmp_gt (tgt := 21) hx hb d_Row_packName_8 (by decide) (fun hc => ?_) (fun hc => ?_)
    · have h := if_t hc h
      refine lv_iconst (v := 0) hx hb d_Row_packName_21 (by decide) ?_
      cases h
      exact fx_zret X hP hD hS (Or.inl rfl) d_Row_packName_22
    · have h := if_f hc h
      refine lv_iload_n hx hb d_Row_packName_11 rfl (lv_at hl 1 rfl) ?_
      refine lv_aload_n hx hb d_Row_packName_12 rfl (lv_at hl 0 rfl) ?_
      refine gF_row0_length X hP d_Row_packName_13 ?_
      refine lv_iload_n hx hb d_Row_packName_16 rfl (lv_at hl 2 rfl) ?_
      refine lv_isub hx hb d_Row_packName_17 ?_
      refine lv_icmp_le (tgt := 23) hx hb d_Row_packName_18 (by decide) (fun hc => ?_) (fun hc => ?_)
      · have h := if_t hc h
        refine lv_aload_n hx hb d_Row_packName_23 rfl (lv_at hl 3 rfl) ?_
        refine lv_iconst (v := 0) hx hb d_Row_packName_24 (by decide) ?_
        obtain ⟨p4, e1, h⟩ := bd_some h
        refine fx_v X (fx_runS X (m_Arr_fill_0_3 e1 _) (As := [.ref (ad 14), .int (0 : Int32)]) hP hD ks_Row_23 ⟨Nat.le_of_ble_eq_true rfl, Nat.le_of_ble_eq_true rfl⟩ rfl hl.1 rfl (Nat.le_of_ble_eq_true rfl) d_Row_packName_25) hD hS (fun H locs hP hD hS => ?_)
        refine lv_iconst (v := 0) hx hb d_Row_packName_28 (by decide) ?_
        refine lv_istore hx hb d_Row_packName_29 hl (by decide) rfl (fun ls hl => ?_)
        have hl : lv_has ls 6 [(4, .int (0 : Int32)), (0, .ref (ad 1)), (1, .int x1), (2, .int x2), (3, .ref (ad 14))] := hl
        exact v_Row_packName_31_0_3 X  _ _ _ _ _ _ _ _ hP hD hS (lv_sub hl [1, 2, 3, 4, 0] rfl) h
      · have h := if_f hc h
        refine lv_iconst (v := 0) hx hb d_Row_packName_21 (by decide) ?_
        cases h
        exact fx_zret X hP hD hS (Or.inl rfl) d_Row_packName_22
set_option maxHeartbeats 4000000 in
set_option maxRecDepth 100000 in
theorem m_Row_add_1 {l : Launch} {D : va_G} {ad : Nat → Nat} {ca : Nat → ClassId} {FU : Nat} {x1 : Int32} {g : St} {q : St} (h : Row_add FU 1 x1 g = some q) : CV l ⟨"FlashFiles$Row", "add", "(I)V"⟩ prog_8_method_5_code 2 1 D (tyF ca) (wF ad ca g) [.ref (ad 2), .int x1] (wF ad ca q) := by
  intro sz
  refine Met.fx (Qc := fun A => fxQv D (tyF ca) A (wF ad ca q)) (by decide) (Nat.le_of_ble_eq_true rfl) ?_
  intro p e s m below meth c A ls X hP hD hl
  have hl : lv_has ls 2 [(0, .ref (ad 2)), (1, .int x1)] := hl
  have hS : va_S A s.heap s.heap [] := va_S.rf
  have hx := X.1
  have hb := X.2.1
  unfold Row_add at h
  refine lv_aload_n hx hb d_Row_add_0 rfl (lv_at hl 0 rfl) ?_
  refine gF_row1_length X hP d_Row_add_1 ?_
  refine lv_aload_n hx hb d_Row_add_4 rfl (lv_at hl 0 rfl) ?_
  refine gF_row1_bytes X hP d_Row_add_5 ?_
  refine va_alen (v := (nI (lenF 1))) hx hb X.2.2.2.2.2.2.2.1 hP 12 1 rfl rfl rfl d_Row_add_8 ?_
  refine lv_icmp_ge (tgt := 36) hx hb d_Row_add_9 (by decide) (fun hc => ?_) (fun hc => ?_)
  · have h := if_t hc h
    cases h
    exact fx_vret X hP hD hS d_Row_add_36
  · have h := if_f hc h
    refine lv_aload_n hx hb d_Row_add_12 rfl (lv_at hl 0 rfl) ?_
    refine gF_row1_bytes X hP d_Row_add_13 ?_
    refine lv_aload_n hx hb d_Row_add_16 rfl (lv_at hl 0 rfl) ?_
    refine gF_row1_length X hP d_Row_add_17 ?_
    refine lv_iload_n hx hb d_Row_add_20 rfl (lv_at hl 1 rfl) ?_
    refine lv_sipush (v := 255) hx hb d_Row_add_21 (by decide) ?_
    refine lv_iand hx hb d_Row_add_24 ?_
    obtain ⟨g1, e1, h⟩ := bd_some h
    refine sF_1 X hP hD hS e1 d_Row_add_25 (fun H locs hP hD hS => ?_)
    refine lv_aload_n hx hb d_Row_add_26 rfl (lv_at hl 0 rfl) ?_
    refine lv_dup hx hb d_Row_add_27 rfl ?_
    refine gF_row1_length X hP d_Row_add_28 ?_
    refine lv_iconst (v := 1) hx hb d_Row_add_31 (by decide) ?_
    refine lv_iadd hx hb d_Row_add_32 ?_
    obtain ⟨g2, e1, h⟩ := nx_some h
    refine uF_row1_length X hP hD hS e1 d_Row_add_33 (fun H locs hP hD hS => ?_)
    cases h
    exact fx_vret X hP hD hS d_Row_add_36
