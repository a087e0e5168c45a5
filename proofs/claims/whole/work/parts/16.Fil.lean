theorem d_Fil_loadNode_0 : decode prog_5_method_12_code 0 = .ok (.iload_n 1, 1) := by decide +kernel
theorem d_Fil_loadNode_1 : decode prog_5_method_12_code 1 = .ok (.ifCond .ne 11, 3) := by decide +kernel
theorem d_Fil_loadNode_4 : decode prog_5_method_12_code 4 = .ok (.aload_n 2, 1) := by decide +kernel
theorem d_Fil_loadNode_5 : decode prog_5_method_12_code 5 = .ok (.iconst 0, 1) := by decide +kernel
theorem d_Fil_loadNode_6 : decode prog_5_method_12_code 6 = .ok (.invokestatic 167, 3) := by decide +kernel
theorem d_Fil_loadNode_9 : decode prog_5_method_12_code 9 = .ok (.goto 19, 3) := by decide +kernel
theorem d_Fil_loadNode_12 : decode prog_5_method_12_code 12 = .ok (.aload_n 0, 1) := by decide +kernel
theorem d_Fil_loadNode_13 : decode prog_5_method_12_code 13 = .ok (.getfield 9, 3) := by decide +kernel
theorem d_Fil_loadNode_16 : decode prog_5_method_12_code 16 = .ok (.aload_n 0, 1) := by decide +kernel
theorem d_Fil_loadNode_17 : decode prog_5_method_12_code 17 = .ok (.getfield 15, 3) := by decide +kernel
theorem d_Fil_loadNode_20 : decode prog_5_method_12_code 20 = .ok (.iload_n 1, 1) := by decide +kernel
theorem d_Fil_loadNode_21 : decode prog_5_method_12_code 21 = .ok (.invokevirtual 114, 3) := by decide +kernel
theorem d_Fil_loadNode_24 : decode prog_5_method_12_code 24 = .ok (.aload_n 2, 1) := by decide +kernel
theorem d_Fil_loadNode_25 : decode prog_5_method_12_code 25 = .ok (.invokevirtual 154, 3) := by decide +kernel
theorem d_Fil_loadNode_28 : decode prog_5_method_12_code 28 = .ok (.return_, 1) := by decide +kernel
set_option maxHeartbeats 4000000 in
set_option maxRecDepth 100000 in
theorem m_Fil_loadNode_14 {l : Launch} {D : va_G} {ad : Nat → Nat} {ca : Nat → ClassId} {FU : Nat} {x1 : Int32} {g : St} {q : St} (h : Fil_loadNode FU 14 x1 g = some q) : CV l ⟨"FlashFiles$Files", "loadNode", "(I[I)V"⟩ prog_5_method_12_code 3 2 D (tyF ca) (wF ad ca g) [.ref (ad 6), .int x1, .ref (ad 25)] (wF ad ca q) := by
  intro sz
  refine Met.fx (Qc := fun A => fxQv D (tyF ca) A (wF ad ca q)) (by decide) (Nat.le_of_ble_eq_true rfl) ?_
  intro p e s m below meth c A ls X hP hD hl
  have hl : lv_has ls 3 [(0, .ref (ad 6)), (1, .int x1), (2, .ref (ad 25))] := hl
  have hS : va_S A s.heap s.heap [] := va_S.rf
  have hx := X.1
  have hb := X.2.1
  unfold Fil_loadNode at h
  refine lv_iload_n hx hb d_Fil_loadNode_0 rfl (lv_at hl 1 rfl) ?_
  refine lv_if_ne (tgt := 12) hx hb d_Fil_loadNode_1 (by decide) (fun hc => ?_) (fun hc => ?_)
  · have h := if_f hc h
    refine lv_aload_n hx hb d_Fil_loadNode_12 rfl (lv_at hl 0 rfl) ?_
    refine gF_fil_device X hP d_Fil_loadNode_13 ?_
    refine lv_aload_n hx hb d_Fil_loadNode_16 rfl (lv_at hl 0 rfl) ?_
    refine gF_fil_table X hP d_Fil_loadNode_17 ?_
    refine lv_iload_n hx hb d_Fil_loadNode_20 rfl (lv_at hl 1 rfl) ?_
    obtain ⟨v1, e1, h⟩ := bd_some h
    refine fx_i X (fx_runV (As := [.int x1]) X (m_Tab_placeOf e1 _) hP hD kv_Fil_114 ⟨Nat.le_of_ble_eq_true rfl, Nat.le_of_ble_eq_true rfl⟩ 4 rfl rfl rfl hl.1 rfl (Nat.le_of_ble_eq_true rfl) d_Fil_loadNode_21) hD hS (fun H locs hP hD hS => ?_)
    refine lv_aload_n hx hb d_Fil_loadNode_24 rfl (lv_at hl 2 rfl) ?_
    obtain ⟨p2, e1, h⟩ := bd_some h
    refine fx_v X (fx_runV (As := [.int v1, .ref (ad 25)]) X (m_Dev_load_14 e1 _) hP hD kv_Fil_154 ⟨Nat.le_of_ble_eq_true rfl, Nat.le_of_ble_eq_true rfl⟩ 3 rfl rfl rfl hl.1 rfl (Nat.le_of_ble_eq_true rfl) d_Fil_loadNode_25) hD hS (fun H locs hP hD hS => ?_)
    cases h
    exact fx_vret X hP hD hS d_Fil_loadNode_28
  · have h := if_t hc h
    refine lv_aload_n hx hb d_Fil_loadNode_4 rfl (lv_at hl 2 rfl) ?_
    refine lv_iconst (v := 0) hx hb d_Fil_loadNode_5 (by decide) ?_
    obtain ⟨p3, e1, h⟩ := bd_some h
    refine fx_v X (fx_runS X (m_Arr_fill_0_14 e1 _) (As := [.ref (ad 25), .int (0 : Int32)]) hP hD ks_Fil_167 ⟨Nat.le_of_ble_eq_true rfl, Nat.le_of_ble_eq_true rfl⟩ rfl hl.1 rfl (Nat.le_of_ble_eq_true rfl) d_Fil_loadNode_6) hD hS (fun H locs hP hD hS => ?_)
    refine lv_goto (tgt := 28) hx hb d_Fil_loadNode_9 (by decide) ?_
    cases h
    exact fx_vret X hP hD hS d_Fil_loadNode_28
theorem d_Fil_begin_0 : decode prog_5_method_8_code 0 = .ok (.aload_n 0, 1) := by decide +kernel
theorem d_Fil_begin_1 : decode prog_5_method_8_code 1 = .ok (.iload_n 1, 1) := by decide +kernel
theorem d_Fil_begin_2 : decode prog_5_method_8_code 2 = .ok (.putfield 140, 3) := by decide +kernel
theorem d_Fil_begin_5 : decode prog_5_method_8_code 5 = .ok (.aload_n 0, 1) := by decide +kernel
theorem d_Fil_begin_6 : decode prog_5_method_8_code 6 = .ok (.iconst 0, 1) := by decide +kernel
theorem d_Fil_begin_7 : decode prog_5_method_8_code 7 = .ok (.putfield 144, 3) := by decide +kernel
theorem d_Fil_begin_10 : decode prog_5_method_8_code 10 = .ok (.aload_n 0, 1) := by decide +kernel
theorem d_Fil_begin_11 : decode prog_5_method_8_code 11 = .ok (.iconst 0, 1) := by decide +kernel
theorem d_Fil_begin_12 : decode prog_5_method_8_code 12 = .ok (.putfield 147, 3) := by decide +kernel
theorem d_Fil_begin_15 : decode prog_5_method_8_code 15 = .ok (.aload_n 0, 1) := by decide +kernel
theorem d_Fil_begin_16 : decode prog_5_method_8_code 16 = .ok (.iconst 0, 1) := by decide +kernel
theorem d_Fil_begin_17 : decode prog_5_method_8_code 17 = .ok (.putfield 151, 3) := by decide +kernel
theorem d_Fil_begin_20 : decode prog_5_method_8_code 20 = .ok (.aload_n 0, 1) := by decide +kernel
theorem d_Fil_begin_21 : decode prog_5_method_8_code 21 = .ok (.getfield 9, 3) := by decide +kernel
theorem d_Fil_begin_24 : decode prog_5_method_8_code 24 = .ok (.aload_n 0, 1) := by decide +kernel
theorem d_Fil_begin_25 : decode prog_5_method_8_code 25 = .ok (.getfield 15, 3) := by decide +kernel
theorem d_Fil_begin_28 : decode prog_5_method_8_code 28 = .ok (.iload_n 1, 1) := by decide +kernel
theorem d_Fil_begin_29 : decode prog_5_method_8_code 29 = .ok (.invokevirtual 114, 3) := by decide +kernel
theorem d_Fil_begin_32 : decode prog_5_method_8_code 32 = .ok (.aload_n 0, 1) := by decide +kernel
theorem d_Fil_begin_33 : decode prog_5_method_8_code 33 = .ok (.getfield 23, 3) := by decide +kernel
theorem d_Fil_begin_36 : decode prog_5_method_8_code 36 = .ok (.invokevirtual 154, 3) := by decide +kernel
theorem d_Fil_begin_39 : decode prog_5_method_8_code 39 = .ok (.aload_n 0, 1) := by decide +kernel
theorem d_Fil_begin_40 : decode prog_5_method_8_code 40 = .ok (.aload_n 0, 1) := by decide +kernel
theorem d_Fil_begin_41 : decode prog_5_method_8_code 41 = .ok (.getfield 23, 3) := by decide +kernel
theorem d_Fil_begin_44 : decode prog_5_method_8_code 44 = .ok (.bipush 28, 2) := by decide +kernel
theorem d_Fil_begin_46 : decode prog_5_method_8_code 46 = .ok (.iaload, 1) := by decide +kernel
theorem d_Fil_begin_47 : decode prog_5_method_8_code 47 = .ok (.aload_n 0, 1) := by decide +kernel
theorem d_Fil_begin_48 : decode prog_5_method_8_code 48 = .ok (.getfield 27, 3) := by decide +kernel
theorem d_Fil_begin_51 : decode prog_5_method_8_code 51 = .ok (.invokevirtual 158, 3) := by decide +kernel
theorem d_Fil_begin_54 : decode prog_5_method_8_code 54 = .ok (.return_, 1) := by decide +kernel
set_option maxHeartbeats 4000000 in
set_option maxRecDepth 100000 in
theorem m_Fil_begin {l : Launch} {D : va_G} {ad : Nat → Nat} {ca : Nat → ClassId} {FU : Nat} {x1 : Int32} {g : St} {q : St} (h : Fil_begin FU x1 g = some q) : CV l ⟨"FlashFiles$Files", "begin", "(I)V"⟩ prog_5_method_8_code 2 3 D (tyF ca) (wF ad ca g) [.ref (ad 6), .int x1] (wF ad ca q) := by
  intro sz
  refine Met.fx (Qc := fun A => fxQv D (tyF ca) A (wF ad ca q)) (by decide) (Nat.le_of_ble_eq_true rfl) ?_
  intro p e s m below meth c A ls X hP hD hl
  have hl : lv_has ls 2 [(0, .ref (ad 6)), (1, .int x1)] := hl
  have hS : va_S A s.heap s.heap [] := va_S.rf
  have hx := X.1
  have hb := X.2.1
  unfold Fil_begin at h
  refine lv_aload_n hx hb d_Fil_begin_0 rfl (lv_at hl 0 rfl) ?_
  refine lv_iload_n hx hb d_Fil_begin_1 rfl (lv_at hl 1 rfl) ?_
  obtain ⟨g1, e1, h⟩ := nx_some h
  refine uF_fil_id X hP hD hS e1 d_Fil_begin_2 (fun H locs hP hD hS => ?_)
  refine lv_aload_n hx hb d_Fil_begin_5 rfl (lv_at hl 0 rfl) ?_
  refine lv_iconst (v := 0) hx hb d_Fil_begin_6 (by decide) ?_
  obtain ⟨g2, e1, h⟩ := nx_some h
  refine uF_fil_opened X hP hD hS e1 d_Fil_begin_7 (fun H locs hP hD hS => ?_)
  refine lv_aload_n hx hb d_Fil_begin_10 rfl (lv_at hl 0 rfl) ?_
  refine lv_iconst (v := 0) hx hb d_Fil_begin_11 (by decide) ?_
  obtain ⟨g3, e1, h⟩ := nx_some h
  refine uF_fil_directChanged X hP hD hS (Or.inl rfl) e1 d_Fil_begin_12 (fun H locs hP hD hS => ?_)
  refine lv_aload_n hx hb d_Fil_begin_15 rfl (lv_at hl 0 rfl) ?_
  refine lv_iconst (v := 0) hx hb d_Fil_begin_16 (by decide) ?_
  obtain ⟨g4, e1, h⟩ := nx_some h
  refine uF_fil_indirectChanged X hP hD hS (Or.inl rfl) e1 d_Fil_begin_17 (fun H locs hP hD hS => ?_)
  refine lv_aload_n hx hb d_Fil_begin_20 rfl (lv_at hl 0 rfl) ?_
  refine gF_fil_device X hP d_Fil_begin_21 ?_
  refine lv_aload_n hx hb d_Fil_begin_24 rfl (lv_at hl 0 rfl) ?_
  refine gF_fil_table X hP d_Fil_begin_25 ?_
  refine lv_iload_n hx hb d_Fil_begin_28 rfl (lv_at hl 1 rfl) ?_
  obtain ⟨v5, e1, h⟩ := bd_some h
  refine fx_i X (fx_runV (As := [.int x1]) X (m_Tab_placeOf e1 _) hP hD kv_Fil_114 ⟨Nat.le_of_ble_eq_true rfl, Nat.le_of_ble_eq_true rfl⟩ 4 rfl rfl rfl hl.1 rfl (Nat.le_of_ble_eq_true rfl) d_Fil_begin_29) hD hS (fun H locs hP hD hS => ?_)
  refine lv_aload_n hx hb d_Fil_begin_32 rfl (lv_at hl 0 rfl) ?_
  refine gF_fil_inode X hP d_Fil_begin_33 ?_
  obtain ⟨p6, e1, h⟩ := bd_some h
  refine fx_v X (fx_runV (As := [.int v5, .ref (ad 24)]) X (m_Dev_load_13 e1 _) hP hD kv_Fil_154 ⟨Nat.le_of_ble_eq_true rfl, Nat.le_of_ble_eq_true rfl⟩ 3 rfl rfl rfl hl.1 rfl (Nat.le_of_ble_eq_true rfl) d_Fil_begin_36) hD hS (fun H locs hP hD hS => ?_)
  refine lv_aload_n hx hb d_Fil_begin_39 rfl (lv_at hl 0 rfl) ?_
  refine lv_aload_n hx hb d_Fil_begin_40 rfl (lv_at hl 0 rfl) ?_
  refine gF_fil_inode X hP d_Fil_begin_41 ?_
  refine lv_bipush (v := 28) hx hb d_Fil_begin_44 (by decide) ?_
  obtain ⟨v7, e1, h⟩ := bd_some h
  refine rF_13 X hP e1 d_Fil_begin_46 ?_
  refine lv_aload_n hx hb d_Fil_begin_47 rfl (lv_at hl 0 rfl) ?_
  refine gF_fil_indirect X hP d_Fil_begin_48 ?_
  obtain ⟨p8, e1, h⟩ := bd_some h
  refine fx_v X (fx_runV (As := [.int v7, .ref (ad 25)]) X (m_Fil_loadNode_14 e1 _) hP hD kv_Fil_158 ⟨Nat.le_of_ble_eq_true rfl, Nat.le_of_ble_eq_true rfl⟩ 6 rfl rfl rfl hl.1 rfl (Nat.le_of_ble_eq_true rfl) d_Fil_begin_51) hD hS (fun H locs hP hD hS => ?_)
  cases h
  exact fx_vret X hP hD hS d_Fil_begin_54
theorem d_Fil_clearFrom_0 : decode prog_5_method_24_code 0 = .ok (.iload_n 3, 1) := by decide +kernel
theorem d_Fil_clearFrom_1 : decode prog_5_method_24_code 1 = .ok (.istore 5, 2) := by decide +kernel
theorem d_Fil_clearFrom_3 : decode prog_5_method_24_code 3 = .ok (.iload 5, 2) := by decide +kernel
theorem d_Fil_clearFrom_5 : decode prog_5_method_24_code 5 = .ok (.iload 4, 2) := by decide +kernel
theorem d_Fil_clearFrom_7 : decode prog_5_method_24_code 7 = .ok (.if_icmp .ge 17, 3) := by decide +kernel
theorem d_Fil_clearFrom_10 : decode prog_5_method_24_code 10 = .ok (.aload_n 1, 1) := by decide +kernel
theorem d_Fil_clearFrom_11 : decode prog_5_method_24_code 11 = .ok (.iload_n 2, 1) := by decide +kernel
theorem d_Fil_clearFrom_12 : decode prog_5_method_24_code 12 = .ok (.iload 5, 2) := by decide +kernel
theorem d_Fil_clearFrom_14 : decode prog_5_method_24_code 14 = .ok (.iconst 0, 1) := by decide +kernel
theorem d_Fil_clearFrom_15 : decode prog_5_method_24_code 15 = .ok (.invokestatic 46, 3) := by decide +kernel
theorem d_Fil_clearFrom_18 : decode prog_5_method_24_code 18 = .ok (.iinc 5 1, 3) := by decide +kernel
theorem d_Fil_clearFrom_21 : decode prog_5_method_24_code 21 = .ok (.goto (-18), 3) := by decide +kernel
theorem d_Fil_clearFrom_24 : decode prog_5_method_24_code 24 = .ok (.return_, 1) := by decide +kernel
set_option maxHeartbeats 4000000 in
set_option maxRecDepth 100000 in
theorem v_Fil_clearFrom_3_13 {p : Program} {l : Launch} {e : Env} {s : State} {m : MethodId} {args : Array Value} {below : List Frame} {meth : Method} {c : Code} {D : va_G} {ad : Nat → Nat} {ca : Nat → ClassId} {A : Nat → Prop} {FU : Nat} {q : St} (X : FX p s m meth c prog_5_method_24_code 6 none "FlashFiles$Files" D (tyF ca) A) : ∀ (n : Nat), ∀ (y2 y4 y5 : Int32) (g : St) (H : Heap) (locs : List Loc) (ls : Array Slot), va_P D cls (wF ad ca g) H → va_D A (wF ad ca g) → va_S A s.heap H locs → lv_has ls 6 [(1, .ref (ad 24)), (2, .int y2), (4, .int y4), (5, .int y5)] → Fil_clearFrom_b3 FU 13 n y2 y4 y5 g = some q → W p l e (rmN 2) s m args below meth c H locs 0 0 (MQ below (fxQv D (tyF ca) A (wF ad ca q)) args s 0 0 A) (F0 m 3 ls []) := by
  have hx := X.1
  have hb := X.2.1
  intro n
  induction n with
  | zero =>
    intro y2 y4 y5 g H locs ls hP hD hS hl h
    cases h
  | succ n ih =>
    intro y2 y4 y5 g H locs ls hP hD hS hl h
    have h := h
    rw [Fil_clearFrom_b3.eq_2] at h
    refine lv_iload hx hb d_Fil_clearFrom_3 (lv_at hl 3 rfl) ?_
    refine lv_iload hx hb d_Fil_clearFrom_5 (lv_at hl 2 rfl) ?_
    refine lv_icmp_ge (tgt := 24) hx hb d_Fil_clearFrom_7 (by decide) (fun hc => ?_) (fun hc => ?_)
    · have h := if_t hc h
      cases h
      exact fx_vret X hP hD hS d_Fil_clearFrom_24
    · have h := if_f hc h
      refine lv_aload_n hx hb d_Fil_clearFrom_10 rfl (lv_at hl 0 rfl) ?_
      refine lv_iload_n hx hb d_Fil_clearFrom_11 rfl (lv_at hl 1 rfl) ?_
      refine lv_iload hx hb d_Fil_clearFrom_12 (lv_at hl 3 rfl) ?_
      refine lv_iconst (v := 0) hx hb d_Fil_clearFrom_14 (by decide) ?_
      obtain ⟨p1, e1, h⟩ := bd_some h
      refine fx_v X (fx_runN X (m_FF_putByte_13 e1 _) (As := [.ref (ad 24), .int y2, .int y5, .int (0 : Int32)]) hP hD kn_Fil_46 ⟨Nat.le_of_ble_eq_true rfl, Nat.le_of_ble_eq_true rfl⟩ rfl hl.1 rfl (Nat.le_of_ble_eq_true rfl) d_Fil_clearFrom_15) hD hS (fun H locs hP hD hS => ?_)
      refine lv_iinc (k := 3) (v := (y5 + (1 : Int32))) hx hb d_Fil_clearFrom_18 hl rfl (oi_1 _) (by decide) rfl (fun ls hl => ?_)
      have hl : lv_has ls 6 [(5, .int (y5 + (1 : Int32))), (1, .ref (ad 24)), (2, .int y2), (4, .int y4)] := hl
      refine lv_goto (tgt := 3) hx hb d_Fil_clearFrom_21 (by decide) ?_
      exact ih _ _ _ _ _ _ _ hP hD hS (lv_sub hl [1, 2, 3, 0] rfl) h
set_option maxHeartbeats 4000000 in
set_option maxRecDepth 100000 in
theorem m_Fil_clearFrom_13 {l : Launch} {D : va_G} {ad : Nat → Nat} {ca : Nat → ClassId} {FU : Nat} {x2 : Int32} {x3 : Int32} {x4 : Int32} {g : St} {q : St} (h : Fil_clearFrom FU 13 x2 x3 x4 g = some q) : CV l ⟨"FlashFiles$Files", "clearFrom", "([IIII)V"⟩ prog_5_method_24_code 6 2 D (tyF ca) (wF ad ca g) [.ref (ad 6), .ref (ad 24), .int x2, .int x3, .int x4] (wF ad ca q) := by
  intro sz
  refine Met.fx (Qc := fun A => fxQv D (tyF ca) A (wF ad ca q)) (by decide) (Nat.le_of_ble_eq_true rfl) ?_
  intro p e s m below meth c A ls X hP hD hl
  have hl : lv_has ls 6 [(0, .ref (ad 6)), (1, .ref (ad 24)), (2, .int x2), (3, .int x3), (4, .int x4)] := hl
  have hS : va_S A s.heap s.heap [] := va_S.rf
  have hx := X.1
  have hb := X.2.1
  unfold Fil_clearFrom at h
  refine lv_iload_n hx hb d_Fil_clearFrom_0 rfl (lv_at hl 3 rfl) ?_
  refine lv_istore hx hb d_Fil_clearFrom_1 hl (by decide) rfl (fun ls hl => ?_)
  have hl : lv_has ls 6 [(5, .int x3), (0, .ref (ad 6)), (1, .ref (ad 24)), (2, .int x2), (3, .int x3), (4, .int x4)] := hl
  exact v_Fil_clearFrom_3_13 X  _ _ _ _ _ _ _ _ hP hD hS (lv_sub hl [2, 3, 5, 0] rfl) h
set_option maxHeartbeats 4000000 in
set_option maxRecDepth 100000 in
theorem v_Fil_clearFrom_3_16 {p : Program} {l : Launch} {e : Env} {s : State} {m : MethodId} {args : Array Value} {below : List Frame} {meth : Method} {c : Code} {D : va_G} {ad : Nat → Nat} {ca : Nat → ClassId} {A : Nat → Prop} {FU : Nat} {q : St} (X : FX p s m meth c prog_5_method_24_code 6 none "FlashFiles$Files" D (tyF ca) A) : ∀ (n : Nat), ∀ (y2 y4 y5 : Int32) (g : St) (H : Heap) (locs : List Loc) (ls : Array Slot), va_P D cls (wF ad ca g) H → va_D A (wF ad ca g) → va_S A s.heap H locs → lv_has ls 6 [(1, .ref (ad 27)), (2, .int y2), (4, .int y4), (5, .int y5)] → Fil_clearFrom_b3 FU 16 n y2 y4 y5 g = some q → W p l e (rmN 2) s m args below meth c H locs 0 0 (MQ below (fxQv D (tyF ca) A (wF ad ca q)) args s 0 0 A) (F0 m 3 ls []) := by
  have hx := X.1
  have hb := X.2.1
  intro n
  induction n with
  | zero =>
    intro y2 y4 y5 g H locs ls hP hD hS hl h
    cases h
  | succ n ih =>
    intro y2 y4 y5 g H locs ls hP hD hS hl h
    have h := h
    rw [Fil_clearFrom_b3.eq_2] at h
    refine lv_iload hx hb d_Fil_clearFrom_3 (lv_at hl 3 rfl) ?_
    refine lv_iload hx hb d_Fil_clearFrom_5 (lv_at hl 2 rfl) ?_
    refine lv_icmp_ge (tgt := 24) hx hb d_Fil_clearFrom_7 (by decide) (fun hc => ?_) (fun hc => ?_)
    · have h := if_t hc h
      cases h
      exact fx_vret X hP hD hS d_Fil_clearFrom_24
    · have h := if_f hc h
      refine lv_aload_n hx hb d_Fil_clearFrom_10 rfl (lv_at hl 0 rfl) ?_
      refine lv_iload_n hx hb d_Fil_clearFrom_11 rfl (lv_at hl 1 rfl) ?_
      refine lv_iload hx hb d_Fil_clearFrom_12 (lv_at hl 3 rfl) ?_
      refine lv_iconst (v := 0) hx hb d_Fil_clearFrom_14 (by decide) ?_
      obtain ⟨p1, e1, h⟩ := bd_some h
      refine fx_v X (fx_runN X (m_FF_putByte_16 e1 _) (As := [.ref (ad 27), .int y2, .int y5, .int (0 : Int32)]) hP hD kn_Fil_46 ⟨Nat.le_of_ble_eq_true rfl, Nat.le_of_ble_eq_true rfl⟩ rfl hl.1 rfl (Nat.le_of_ble_eq_true rfl) d_Fil_clearFrom_15) hD hS (fun H locs hP hD hS => ?_)
      refine lv_iinc (k := 3) (v := (y5 + (1 : Int32))) hx hb d_Fil_clearFrom_18 hl rfl (oi_1 _) (by decide) rfl (fun ls hl => ?_)
      have hl : lv_has ls 6 [(5, .int (y5 + (1 : Int32))), (1, .ref (ad 27)), (2, .int y2), (4, .int y4)] := hl
      refine lv_goto (tgt := 3) hx hb d_Fil_clearFrom_21 (by decide) ?_
      exact ih _ _ _ _ _ _ _ hP hD hS (lv_sub hl [1, 2, 3, 0] rfl) h
set_option maxHeartbeats 4000000 in
set_option maxRecDepth 100000 in
theorem m_Fil_clearFrom_16 {l : Launch} {D : va_G} {ad : Nat → Nat} {ca : Nat → ClassId} {FU : Nat} {x2 : Int32} {x3 : Int32} {x4 : Int32} {g : St} {q : St} (h : Fil_clearFrom FU 16 x2 x3 x4 g = some q) : CV l ⟨"FlashFiles$Files", "clearFrom", "([IIII)V"⟩ prog_5_method_24_code 6 2 D (tyF ca) (wF ad ca g) [.ref (ad 6), .ref (ad 27), .int x2, .int x3, .int x4] (wF ad ca q) := by
  intro sz
  refine Met.fx (Qc := fun A => fxQv D (tyF ca) A (wF ad ca q)) (by decide) (Nat.le_of_ble_eq_true rfl) ?_
  intro p e s m below meth c A ls X hP hD hl
  have hl : lv_has ls 6 [(0, .ref (ad 6)), (1, .ref (ad 27)), (2, .int x2), (3, .int x3), (4, .int x4)] := hl
  have hS : va_S A s.heap s.heap [] := va_S.rf
  have hx := X.1
  have hb := X.2.1
  unfold Fil_clearFrom at h
  refine lv_iload_n hx hb d_Fil_clearFrom_0 rfl (lv_at hl 3 rfl) ?_
  refine lv_istore hx hb d_Fil_clearFrom_1 hl (by decide) rfl (fun ls hl => ?_)
  have hl : lv_has ls 6 [(5, .int x3), (0, .ref (ad 6)), (1, .ref (ad 27)), (2, .int x2), (3, .int x3), (4, .int x4)] := hl
  exact v_Fil_clearFrom_3_16 X  _ _ _ _ _ _ _ _ hP hD hS (lv_sub hl [2, 3, 5, 0] rfl) h
theorem d_Fil_loadBlock_0 : decode prog_5_method_21_code 0 = .ok (.iload_n 1, 1) := by decide +kernel
theorem d_Fil_loadBlock_1 : decode prog_5_method_21_code 1 = .ok (.ifCond .ne 14, 3) := by decide +kernel
theorem d_Fil_loadBlock_4 : decode prog_5_method_21_code 4 = .ok (.aload_n 0, 1) := by decide +kernel
theorem d_Fil_loadBlock_5 : decode prog_5_method_21_code 5 = .ok (.getfield 33, 3) := by decide +kernel
theorem d_Fil_loadBlock_8 : decode prog_5_method_21_code 8 = .ok (.iconst 0, 1) := by decide +kernel
theorem d_Fil_loadBlock_9 : decode prog_5_method_21_code 9 = .ok (.invokestatic 167, 3) := by decide +kernel
theorem d_Fil_loadBlock_12 : decode prog_5_method_21_code 12 = .ok (.goto 15, 3) := by decide +kernel
theorem d_Fil_loadBlock_15 : decode prog_5_method_21_code 15 = .ok (.aload_n 0, 1) := by decide +kernel
theorem d_Fil_loadBlock_16 : decode prog_5_method_21_code 16 = .ok (.getfield 9, 3) := by decide +kernel
theorem d_Fil_loadBlock_19 : decode prog_5_method_21_code 19 = .ok (.iload_n 1, 1) := by decide +kernel
theorem d_Fil_loadBlock_20 : decode prog_5_method_21_code 20 = .ok (.aload_n 0, 1) := by decide +kernel
theorem d_Fil_loadBlock_21 : decode prog_5_method_21_code 21 = .ok (.getfield 33, 3) := by decide +kernel
theorem d_Fil_loadBlock_24 : decode prog_5_method_21_code 24 = .ok (.invokevirtual 154, 3) := by decide +kernel
theorem d_Fil_loadBlock_27 : decode prog_5_method_21_code 27 = .ok (.return_, 1) := by decide +kernel
set_option maxHeartbeats 4000000 in
set_option maxRecDepth 100000 in
theorem m_Fil_loadBlock {l : Launch} {D : va_G} {ad : Nat → Nat} {ca : Nat → ClassId} {FU : Nat} {x1 : Int32} {g : St} {q : St} (h : Fil_loadBlock FU x1 g = some q) : CV l ⟨"FlashFiles$Files", "loadBlock", "(I)V"⟩ prog_5_method_21_code 2 2 D (tyF ca) (wF ad ca g) [.ref (ad 6), .int x1] (wF ad ca q) := by
  intro sz
  refine Met.fx (Qc := fun A => fxQv D (tyF ca) A (wF ad ca q)) (by decide) (Nat.le_of_ble_eq_true rfl) ?_
  intro p e s m below meth c A ls X hP hD hl
  have hl : lv_has ls 2 [(0, .ref (ad 6)), (1, .int x1)] := hl
  have hS : va_S A s.heap s.heap [] := va_S.rf
  have hx := X.1
  have hb := X.2.1
  unfold Fil_loadBlock at h
  refine lv_iload_n hx hb d_Fil_loadBlock_0 rfl (lv_at hl 1 rfl) ?_
  refine lv_if_ne (tgt := 15) hx hb d_Fil_loadBlock_1 (by decide) (fun hc => ?_) (fun hc => ?_)
  · have h := if_f hc h
    refine lv_aload_n hx hb d_Fil_loadBlock_15 rfl (lv_at hl 0 rfl) ?_
    refine gF_fil_device X hP d_Fil_loadBlock_16 ?_
    refine lv_iload_n hx hb d_Fil_loadBlock_19 rfl (lv_at hl 1 rfl) ?_
    refine lv_aload_n hx hb d_Fil_loadBlock_20 rfl (lv_at hl 0 rfl) ?_
    refine gF_fil_block X hP d_Fil_loadBlock_21 ?_
    obtain ⟨p1, e1, h⟩ := bd_some h
    refine fx_v X (fx_runV (As := [.int x1, .ref (ad 27)]) X (m_Dev_load_16 e1 _) hP hD kv_Fil_154 ⟨Nat.le_of_ble_eq_true rfl, Nat.le_of_ble_eq_true rfl⟩ 3 rfl rfl rfl hl.1 rfl (Nat.le_of_ble_eq_true rfl) d_Fil_loadBlock_24) hD hS (fun H locs hP hD hS => ?_)
    cases h
    exact fx_vret X hP hD hS d_Fil_loadBlock_27
  · have h := if_t hc h
    refine lv_aload_n hx hb d_Fil_loadBlock_4 rfl (lv_at hl 0 rfl) ?_
    refine gF_fil_block X hP d_Fil_loadBlock_5 ?_
    refine lv_iconst (v := 0) hx hb d_Fil_loadBlock_8 (by decide) ?_
    obtain ⟨p2, e1, h⟩ := bd_some h
    refine fx_v X (fx_runS X (m_Arr_fill_0_16 e1 _) (As := [.ref (ad 27), .int (0 : Int32)]) hP hD ks_Fil_167 ⟨Nat.le_of_ble_eq_true rfl, Nat.le_of_ble_eq_true rfl⟩ rfl hl.1 rfl (Nat.le_of_ble_eq_true rfl) d_Fil_loadBlock_9) hD hS (fun H locs hP hD hS => ?_)
    refine lv_goto (tgt := 27) hx hb d_Fil_loadBlock_12 (by decide) ?_
    cases h
    exact fx_vret X hP hD hS d_Fil_loadBlock_27
theorem d_Fil_placeOf_0 : decode prog_5_method_10_code 0 = .ok (.iload_n 1, 1) := by decide +kernel
theorem d_Fil_placeOf_1 : decode prog_5_method_10_code 1 = .ok (.bipush 20, 2) := by decide +kernel
theorem d_Fil_placeOf_3 : decode prog_5_method_10_code 3 = .ok (.if_icmp .ge 21, 3) := by decide +kernel
theorem d_Fil_placeOf_6 : decode prog_5_method_10_code 6 = .ok (.iload_n 1, 1) := by decide +kernel
theorem d_Fil_placeOf_7 : decode prog_5_method_10_code 7 = .ok (.ifCond .ge 7, 3) := by decide +kernel
theorem d_Fil_placeOf_10 : decode prog_5_method_10_code 10 = .ok (.iconst 0, 1) := by decide +kernel
theorem d_Fil_placeOf_11 : decode prog_5_method_10_code 11 = .ok (.goto 12, 3) := by decide +kernel
theorem d_Fil_placeOf_14 : decode prog_5_method_10_code 14 = .ok (.aload_n 0, 1) := by decide +kernel
theorem d_Fil_placeOf_15 : decode prog_5_method_10_code 15 = .ok (.getfield 23, 3) := by decide +kernel
theorem d_Fil_placeOf_18 : decode prog_5_method_10_code 18 = .ok (.bipush 6, 2) := by decide +kernel
theorem d_Fil_placeOf_20 : decode prog_5_method_10_code 20 = .ok (.iload_n 1, 1) := by decide +kernel
theorem d_Fil_placeOf_21 : decode prog_5_method_10_code 21 = .ok (.iadd, 1) := by decide +kernel
theorem d_Fil_placeOf_22 : decode prog_5_method_10_code 22 = .ok (.iaload, 1) := by decide +kernel
theorem d_Fil_placeOf_23 : decode prog_5_method_10_code 23 = .ok (.ireturn, 1) := by decide +kernel
theorem d_Fil_placeOf_24 : decode prog_5_method_10_code 24 = .ok (.aload_n 0, 1) := by decide +kernel
theorem d_Fil_placeOf_25 : decode prog_5_method_10_code 25 = .ok (.getfield 30, 3) := by decide +kernel
theorem d_Fil_placeOf_28 : decode prog_5_method_10_code 28 = .ok (.iload_n 1, 1) := by decide +kernel
theorem d_Fil_placeOf_29 : decode prog_5_method_10_code 29 = .ok (.bipush 20, 2) := by decide +kernel
theorem d_Fil_placeOf_31 : decode prog_5_method_10_code 31 = .ok (.isub, 1) := by decide +kernel
theorem d_Fil_placeOf_32 : decode prog_5_method_10_code 32 = .ok (.bipush 56, 2) := by decide +kernel
theorem d_Fil_placeOf_34 : decode prog_5_method_10_code 34 = .ok (.irem, 1) := by decide +kernel
theorem d_Fil_placeOf_35 : decode prog_5_method_10_code 35 = .ok (.iaload, 1) := by decide +kernel
theorem d_Fil_placeOf_36 : decode prog_5_method_10_code 36 = .ok (.ireturn, 1) := by decide +kernel
set_option maxHeartbeats 4000000 in
set_option maxRecDepth 100000 in
theorem m_Fil_placeOf {l : Launch} {D : va_G} {ad : Nat → Nat} {ca : Nat → ClassId} {FU : Nat} {x1 : Int32} {g : St} {q : Int32} (h : Fil_placeOf FU x1 g = some q) : CI l ⟨"FlashFiles$Files", "placeOf", "(I)I"⟩ prog_5_method_10_code 2 1 (some .int) D (tyF ca) (wF ad ca g) [.ref (ad 6), .int x1] q (wF ad ca g) := by
  intro sz
  refine Met.fx (Qc := fun A => fxQi D (tyF ca) A (wF ad ca g) q) (by decide) (Nat.le_of_ble_eq_true rfl) ?_
  intro p e s m below meth c A ls X hP hD hl
  have hl : lv_has ls 2 [(0, .ref (ad 6)), (1, .int x1)] := hl
  have hS : va_S A s.heap s.heap [] := va_S.rf
  have hx := X.1
  have hb := X.2.1
  unfold Fil_placeOf at h
  refine lv_iload_n hx hb d_Fil_placeOf_0 rfl (lv_at hl 1 rfl) ?_
  refine lv_bipush (v := 20) hx hb d_Fil_placeOf_1 (by decide) ?_
  refine lv_icmp_ge (tgt := 24) hx hb d_Fil_placeOf_3 (by decide) (fun hc => ?_) (fun hc => ?_)
  · have h := if_t hc h
    refine lv_aload_n hx hb d_Fil_placeOf_24 rfl (lv_at hl 0 rfl) ?_
    refine gF_fil_direct X hP d_Fil_placeOf_25 ?_
    refine lv_iload_n hx hb d_Fil_placeOf_28 rfl (lv_at hl 1 rfl) ?_
    refine lv_bipush (v := 20) hx hb d_Fil_placeOf_29 (by decide) ?_
    refine lv_isub hx hb d_Fil_placeOf_31 ?_
    refine lv_bipush (v := 56) hx hb d_Fil_placeOf_32 (by decide) ?_
    refine lv_irem hx hb d_Fil_placeOf_34 (by decide) ?_
    obtain ⟨v1, e1, h⟩ := bd_some h
    refine rF_15 X hP e1 d_Fil_placeOf_35 ?_
    cases h
    exact fx_iret X hP hD hS d_Fil_placeOf_36
  · have h := if_f hc h
    refine lv_iload_n hx hb d_Fil_placeOf_6 rfl (lv_at hl 1 rfl) ?_
    refine lv_if_ge (tgt := 14) hx hb d_Fil_placeOf_7 (by decide) (fun hc => ?_) (fun hc => ?_)
    · have h := if_t hc h
      refine lv_aload_n hx hb d_Fil_placeOf_14 rfl (lv_at hl 0 rfl) ?_
      refine gF_fil_inode X hP d_Fil_placeOf_15 ?_
      refine lv_bipush (v := 6) hx hb d_Fil_placeOf_18 (by decide) ?_
      refine lv_iload_n hx hb d_Fil_placeOf_20 rfl (lv_at hl 1 rfl) ?_
      refine lv_iadd hx hb d_Fil_placeOf_21 ?_
      obtain ⟨v2, e1, h⟩ := bd_some h
      refine rF_13 X hP e1 d_Fil_placeOf_22 ?_
      cases h
      exact fx_iret X hP hD hS d_Fil_placeOf_23
    · have h := if_f hc h
      refine lv_iconst (v := 0) hx hb d_Fil_placeOf_10 (by decide) ?_
      refine lv_goto (tgt := 23) hx hb d_Fil_placeOf_11 (by decide) ?_
      cases h
      exact fx_iret X hP hD hS d_Fil_placeOf_23
theorem d_Fil_setPlace_0 : decode prog_5_method_11_code 0 = .ok (.iload_n 1, 1) := by decide +kernel
theorem d_Fil_setPlace_1 : decode prog_5_method_11_code 1 = .ok (.bipush 20, 2) := by decide +kernel
theorem d_Fil_setPlace_3 : decode prog_5_method_11_code 3 = .ok (.if_icmp .ge 16, 3) := by decide +kernel
theorem d_Fil_setPlace_6 : decode prog_5_method_11_code 6 = .ok (.aload_n 0, 1) := by decide +kernel
theorem d_Fil_setPlace_7 : decode prog_5_method_11_code 7 = .ok (.getfield 23, 3) := by decide +kernel
theorem d_Fil_setPlace_10 : decode prog_5_method_11_code 10 = .ok (.bipush 6, 2) := by decide +kernel
theorem d_Fil_setPlace_12 : decode prog_5_method_11_code 12 = .ok (.iload_n 1, 1) := by decide +kernel
theorem d_Fil_setPlace_13 : decode prog_5_method_11_code 13 = .ok (.iadd, 1) := by decide +kernel
theorem d_Fil_setPlace_14 : decode prog_5_method_11_code 14 = .ok (.iload_n 2, 1) := by decide +kernel
theorem d_Fil_setPlace_15 : decode prog_5_method_11_code 15 = .ok (.iastore, 1) := by decide +kernel
theorem d_Fil_setPlace_16 : decode prog_5_method_11_code 16 = .ok (.goto 21, 3) := by decide +kernel
theorem d_Fil_setPlace_19 : decode prog_5_method_11_code 19 = .ok (.aload_n 0, 1) := by decide +kernel
theorem d_Fil_setPlace_20 : decode prog_5_method_11_code 20 = .ok (.getfield 30, 3) := by decide +kernel
theorem d_Fil_setPlace_23 : decode prog_5_method_11_code 23 = .ok (.iload_n 1, 1) := by decide +kernel
theorem d_Fil_setPlace_24 : decode prog_5_method_11_code 24 = .ok (.bipush 20, 2) := by decide +kernel
theorem d_Fil_setPlace_26 : decode prog_5_method_11_code 26 = .ok (.isub, 1) := by decide +kernel
theorem d_Fil_setPlace_27 : decode prog_5_method_11_code 27 = .ok (.bipush 56, 2) := by decide +kernel
theorem d_Fil_setPlace_29 : decode prog_5_method_11_code 29 = .ok (.irem, 1) := by decide +kernel
theorem d_Fil_setPlace_30 : decode prog_5_method_11_code 30 = .ok (.iload_n 2, 1) := by decide +kernel
theorem d_Fil_setPlace_31 : decode prog_5_method_11_code 31 = .ok (.iastore, 1) := by decide +kernel
theorem d_Fil_setPlace_32 : decode prog_5_method_11_code 32 = .ok (.aload_n 0, 1) := by decide +kernel
theorem d_Fil_setPlace_33 : decode prog_5_method_11_code 33 = .ok (.iconst 1, 1) := by decide +kernel
theorem d_Fil_setPlace_34 : decode prog_5_method_11_code 34 = .ok (.putfield 147, 3) := by decide +kernel
theorem d_Fil_setPlace_37 : decode prog_5_method_11_code 37 = .ok (.return_, 1) := by decide +kernel
set_option maxHeartbeats 4000000 in
set_option maxRecDepth 100000 in
theorem m_Fil_setPlace {l : Launch} {D : va_G} {ad : Nat → Nat} {ca : Nat → ClassId} {FU : Nat} {x1 : Int32} {x2 : Int32} {g : St} {q : St} (h : Fil_setPlace FU x1 x2 g = some q) : CV l ⟨"FlashFiles$Files", "setPlace", "(II)V"⟩ prog_5_method_11_code 3 1 D (tyF ca) (wF ad ca g) [.ref (ad 6), .int x1, .int x2] (wF ad ca q) := by
  intro sz
  refine Met.fx (Qc := fun A => fxQv D (tyF ca) A (wF ad ca q)) (by decide) (Nat.le_of_ble_eq_true rfl) ?_
  intro p e s m below meth c A ls X hP hD hl
  have hl : lv_has ls 3 [(0, .ref (ad 6)), (1, .int x1), (2, .int x2)] := hl
  have hS : va_S A s.heap s.heap [] := va_S.rf
  have hx := X.1
  have hb := X.2.1
  unfold Fil_setPlace at h
  refine lv_iload_n hx hb d_Fil_setPlace_0 rfl (lv_at hl 1 rfl) ?_
  refine lv_bipush (v := 20) hx hb d_Fil_setPlace_1 (by decide) ?_
  refine lv_icmp_ge (tgt := 19) hx hb d_Fil_setPlace_3 (by decide) (fun hc => ?_) (fun hc => ?_)
  · have h := if_t hc h
    refine lv_aload_n hx hb d_Fil_setPlace_19 rfl (lv_at hl 0 rfl) ?_
    refine gF_fil_direct X hP d_Fil_setPlace_20 ?_
    refine lv_iload_n hx hb d_Fil_setPlace_23 rfl (lv_at hl 1 rfl) ?_
    refine lv_bipush (v := 20) hx hb d_Fil_setPlace_24 (by decide) ?_
    refine lv_isub hx hb d_Fil_setPlace_26 ?_
    refine lv_bipush (v := 56) hx hb d_Fil_setPlace_27 (by decide) ?_
    refine lv_irem hx hb d_Fil_setPlace_29 (by decide) ?_
    refine lv_iload_n hx hb d_Fil_setPlace_30 rfl (lv_at hl 2 rfl) ?_
    obtain ⟨g1, e1, h⟩ := bd_some h
    refine sF_15 X hP hD hS e1 d_Fil_setPlace_31 (fun H locs hP hD hS => ?_)
    refine lv_aload_n hx hb d_Fil_setPlace_32 rfl (lv_at hl 0 rfl) ?_
    refine lv_iconst (v := 1) hx hb d_Fil_setPlace_33 (by decide) ?_
    obtain ⟨g2, e1, h⟩ := nx_some h
    refine uF_fil_directChanged X hP hD hS (Or.inr rfl) e1 d_Fil_setPlace_34 (fun H locs hP hD hS => ?_)
    cases h
    exact fx_vret X hP hD hS d_Fil_setPlace_37
  · have h := if_f hc h
    refine lv_aload_n hx hb d_Fil_setPlace_6 rfl (lv_at hl 0 rfl) ?_
    refine gF_fil_inode X hP d_Fil_setPlace_7 ?_
    refine lv_bipush (v := 6) hx hb d_Fil_setPlace_10 (by decide) ?_
    refine lv_iload_n hx hb d_Fil_setPlace_12 rfl (lv_at hl 1 rfl) ?_
    refine lv_iadd hx hb d_Fil_setPlace_13 ?_
    refine lv_iload_n hx hb d_Fil_setPlace_14 rfl (lv_at hl 2 rfl) ?_
    obtain ⟨g3, e1, h⟩ := bd_some h
    refine sF_13 X hP hD hS e1 d_Fil_setPlace_15 (fun H locs hP hD hS => ?_)
    refine lv_goto (tgt := 37) hx hb d_Fil_setPlace_16 (by decide) ?_
    cases h
    exact fx_vret X hP hD hS d_Fil_setPlace_37
theorem d_Fil_clearTail_0 : decode prog_5_method_22_code 0 = .ok (.iload_n 1, 1) := by decide +kernel
theorem d_Fil_clearTail_1 : decode prog_5_method_22_code 1 = .ok (.sipush 256, 3) := by decide +kernel
theorem d_Fil_clearTail_4 : decode prog_5_method_22_code 4 = .ok (.idiv, 1) := by decide +kernel
theorem d_Fil_clearTail_5 : decode prog_5_method_22_code 5 = .ok (.istore_n 2, 1) := by decide +kernel
theorem d_Fil_clearTail_6 : decode prog_5_method_22_code 6 = .ok (.aload_n 0, 1) := by decide +kernel
theorem d_Fil_clearTail_7 : decode prog_5_method_22_code 7 = .ok (.iload_n 2, 1) := by decide +kernel
theorem d_Fil_clearTail_8 : decode prog_5_method_22_code 8 = .ok (.invokevirtual 92, 3) := by decide +kernel
theorem d_Fil_clearTail_11 : decode prog_5_method_22_code 11 = .ok (.istore_n 3, 1) := by decide +kernel
theorem d_Fil_clearTail_12 : decode prog_5_method_22_code 12 = .ok (.iload_n 3, 1) := by decide +kernel
theorem d_Fil_clearTail_13 : decode prog_5_method_22_code 13 = .ok (.ifCond .eq 57, 3) := by decide +kernel
theorem d_Fil_clearTail_16 : decode prog_5_method_22_code 16 = .ok (.iload_n 1, 1) := by decide +kernel
theorem d_Fil_clearTail_17 : decode prog_5_method_22_code 17 = .ok (.sipush 256, 3) := by decide +kernel
theorem d_Fil_clearTail_20 : decode prog_5_method_22_code 20 = .ok (.irem, 1) := by decide +kernel
theorem d_Fil_clearTail_21 : decode prog_5_method_22_code 21 = .ok (.ifCond .eq 49, 3) := by decide +kernel
theorem d_Fil_clearTail_24 : decode prog_5_method_22_code 24 = .ok (.aload_n 0, 1) := by decide +kernel
theorem d_Fil_clearTail_25 : decode prog_5_method_22_code 25 = .ok (.iload_n 3, 1) := by decide +kernel
theorem d_Fil_clearTail_26 : decode prog_5_method_22_code 26 = .ok (.invokevirtual 95, 3) := by decide +kernel
theorem d_Fil_clearTail_29 : decode prog_5_method_22_code 29 = .ok (.aload_n 0, 1) := by decide +kernel
theorem d_Fil_clearTail_30 : decode prog_5_method_22_code 30 = .ok (.aload_n 0, 1) := by decide +kernel
theorem d_Fil_clearTail_31 : decode prog_5_method_22_code 31 = .ok (.getfield 33, 3) := by decide +kernel
theorem d_Fil_clearTail_34 : decode prog_5_method_22_code 34 = .ok (.iconst 0, 1) := by decide +kernel
theorem d_Fil_clearTail_35 : decode prog_5_method_22_code 35 = .ok (.iload_n 1, 1) := by decide +kernel
theorem d_Fil_clearTail_36 : decode prog_5_method_22_code 36 = .ok (.sipush 256, 3) := by decide +kernel
theorem d_Fil_clearTail_39 : decode prog_5_method_22_code 39 = .ok (.irem, 1) := by decide +kernel
theorem d_Fil_clearTail_40 : decode prog_5_method_22_code 40 = .ok (.sipush 256, 3) := by decide +kernel
theorem d_Fil_clearTail_43 : decode prog_5_method_22_code 43 = .ok (.invokevirtual 102, 3) := by decide +kernel
theorem d_Fil_clearTail_46 : decode prog_5_method_22_code 46 = .ok (.aload_n 0, 1) := by decide +kernel
theorem d_Fil_clearTail_47 : decode prog_5_method_22_code 47 = .ok (.getfield 19, 3) := by decide +kernel
theorem d_Fil_clearTail_50 : decode prog_5_method_22_code 50 = .ok (.iload_n 3, 1) := by decide +kernel
theorem d_Fil_clearTail_51 : decode prog_5_method_22_code 51 = .ok (.invokevirtual 134, 3) := by decide +kernel
theorem d_Fil_clearTail_54 : decode prog_5_method_22_code 54 = .ok (.aload_n 0, 1) := by decide +kernel
theorem d_Fil_clearTail_55 : decode prog_5_method_22_code 55 = .ok (.iload_n 2, 1) := by decide +kernel
theorem d_Fil_clearTail_56 : decode prog_5_method_22_code 56 = .ok (.aload_n 0, 1) := by decide +kernel
theorem d_Fil_clearTail_57 : decode prog_5_method_22_code 57 = .ok (.getfield 19, 3) := by decide +kernel
theorem d_Fil_clearTail_60 : decode prog_5_method_22_code 60 = .ok (.aload_n 0, 1) := by decide +kernel
theorem d_Fil_clearTail_61 : decode prog_5_method_22_code 61 = .ok (.getfield 33, 3) := by decide +kernel
theorem d_Fil_clearTail_64 : decode prog_5_method_22_code 64 = .ok (.invokevirtual 60, 3) := by decide +kernel
theorem d_Fil_clearTail_67 : decode prog_5_method_22_code 67 = .ok (.invokevirtual 66, 3) := by decide +kernel
theorem d_Fil_clearTail_70 : decode prog_5_method_22_code 70 = .ok (.return_, 1) := by decide +kernel
set_option maxHeartbeats 4000000 in
set_option maxRecDepth 100000 in
theorem m_Fil_clearTail {l : Launch} {D : va_G} {ad : Nat → Nat} {ca : Nat → ClassId} {FU : Nat} {x1 : Int32} {g : St} {q : St} (h : Fil_clearTail FU x1 g = some q) : CV l ⟨"FlashFiles$Files", "clearTail", "(I)V"⟩ prog_5_method_22_code 4 4 D (tyF ca) (wF ad ca g) [.ref (ad 6), .int x1] (wF ad ca q) := by
  intro sz
  refine Met.fx (Qc := fun A => fxQv D (tyF ca) A (wF ad ca q)) (by decide) (Nat.le_of_ble_eq_true rfl) ?_
  intro p e s m below meth c A ls X hP hD hl
  have hl : lv_has ls 4 [(0, .ref (ad 6)), (1, .int x1)] := hl
  have hS : va_S A s.heap s.heap [] := va_S.rf
  have hx := X.1
  have hb := X.2.1
  unfold Fil_clearTail at h
  refine lv_iload_n hx hb d_Fil_clearTail_0 rfl (lv_at hl 1 rfl) ?_
  refine lv_sipush (v := 256) hx hb d_Fil_clearTail_1 (by decide) ?_
  refine lv_idiv hx hb d_Fil_clearTail_4 (by decide) ?_
  refine lv_istore_n hx hb d_Fil_clearTail_5 rfl hl (by decide) rfl (fun ls hl => ?_)
  have hl : lv_has ls 4 [(2, .int (x1 / (256 : Int32))), (0, .ref (ad 6)), (1, .int x1)] := hl
  refine lv_aload_n hx hb d_Fil_clearTail_6 rfl (lv_at hl 1 rfl) ?_
  refine lv_iload_n hx hb d_Fil_clearTail_7 rfl (lv_at hl 0 rfl) ?_
  obtain ⟨v1, e1, h⟩ := bd_some h
  refine fx_i X (fx_runV (As := [.int (x1 / (256 : Int32))]) X (m_Fil_placeOf e1 _) hP hD kv_Fil_92 ⟨Nat.le_of_ble_eq_true rfl, Nat.le_of_ble_eq_true rfl⟩ 6 rfl rfl rfl hl.1 rfl (Nat.le_of_ble_eq_true rfl) d_Fil_clearTail_8) hD hS (fun H locs hP hD hS => ?_)
  refine lv_istore_n hx hb d_Fil_clearTail_11 rfl hl (by decide) rfl (fun ls hl => ?_)
  have hl : lv_has ls 4 [(3, .int v1), (2, .int (x1 / (256 : Int32))), (0, .ref (ad 6)), (1, .int x1)] := hl
  refine lv_iload_n hx hb d_Fil_clearTail_12 rfl (lv_at hl 0 rfl) ?_
  refine lv_if_eq (tgt := 70) hx hb d_Fil_clearTail_13 (by decide) (fun hc => ?_) (fun hc => ?_)
  · have h := if_t hc h
    cases h
    exact fx_vret X hP hD hS d_Fil_clearTail_70
  · have h := if_f hc h
    refine lv_iload_n hx hb d_Fil_clearTail_16 rfl (lv_at hl 3 rfl) ?_
    refine lv_sipush (v := 256) hx hb d_Fil_clearTail_17 (by decide) ?_
    refine lv_irem hx hb d_Fil_clearTail_20 (by decide) ?_
    refine lv_if_eq (tgt := 70) hx hb d_Fil_clearTail_21 (by decide) (fun hc => ?_) (fun hc => ?_)
    · have h := if_t hc h
      cases h
      exact fx_vret X hP hD hS d_Fil_clearTail_70
    · have h := if_f hc h
      refine lv_aload_n hx hb d_Fil_clearTail_24 rfl (lv_at hl 2 rfl) ?_
      refine lv_iload_n hx hb d_Fil_clearTail_25 rfl (lv_at hl 0 rfl) ?_
      obtain ⟨p2, e1, h⟩ := bd_some h
      refine fx_v X (fx_runV (As := [.int v1]) X (m_Fil_loadBlock e1 _) hP hD kv_Fil_95 ⟨Nat.le_of_ble_eq_true rfl, Nat.le_of_ble_eq_true rfl⟩ 6 rfl rfl rfl hl.1 rfl (Nat.le_of_ble_eq_true rfl) d_Fil_clearTail_26) hD hS (fun H locs hP hD hS => ?_)
      refine lv_aload_n hx hb d_Fil_clearTail_29 rfl (lv_at hl 2 rfl) ?_
      refine lv_aload_n hx hb d_Fil_clearTail_30 rfl (lv_at hl 2 rfl) ?_
      refine gF_fil_block X hP d_Fil_clearTail_31 ?_
      refine lv_iconst (v := 0) hx hb d_Fil_clearTail_34 (by decide) ?_
      refine lv_iload_n hx hb d_Fil_clearTail_35 rfl (lv_at hl 3 rfl) ?_
      refine lv_sipush (v := 256) hx hb d_Fil_clearTail_36 (by decide) ?_
      refine lv_irem hx hb d_Fil_clearTail_39 (by decide) ?_
      refine lv_sipush (v := 256) hx hb d_Fil_clearTail_40 (by decide) ?_
      obtain ⟨p3, e1, h⟩ := bd_some h
      refine fx_v X (fx_runV (As := [.ref (ad 27), .int (0 : Int32), .int (x1 - x1 / (256 : Int32) * (256 : Int32)), .int (256 : Int32)]) X (m_Fil_clearFrom_16 e1 _) hP hD kv_Fil_102 ⟨Nat.le_of_ble_eq_true rfl, Nat.le_of_ble_eq_true rfl⟩ 6 rfl rfl rfl hl.1 rfl (Nat.le_of_ble_eq_true rfl) d_Fil_clearTail_43) hD hS (fun H locs hP hD hS => ?_)
      refine lv_aload_n hx hb d_Fil_clearTail_46 rfl (lv_at hl 2 rfl) ?_
      refine gF_fil_log X hP d_Fil_clearTail_47 ?_
      refine lv_iload_n hx hb d_Fil_clearTail_50 rfl (lv_at hl 0 rfl) ?_
      obtain ⟨p4, e1, h⟩ := bd_some h
      refine fx_v X (fx_runV (As := [.int v1]) X (m_Log_drop e1 _) hP hD kv_Fil_134 ⟨Nat.le_of_ble_eq_true rfl, Nat.le_of_ble_eq_true rfl⟩ 5 rfl rfl rfl hl.1 rfl (Nat.le_of_ble_eq_true rfl) d_Fil_clearTail_51) hD hS (fun H locs hP hD hS => ?_)
      refine lv_aload_n hx hb d_Fil_clearTail_54 rfl (lv_at hl 2 rfl) ?_
      refine lv_iload_n hx hb d_Fil_clearTail_55 rfl (lv_at hl 1 rfl) ?_
      refine lv_aload_n hx hb d_Fil_clearTail_56 rfl (lv_at hl 2 rfl) ?_
      refine gF_fil_log X hP d_Fil_clearTail_57 ?_
      refine lv_aload_n hx hb d_Fil_clearTail_60 rfl (lv_at hl 2 rfl) ?_
      refine gF_fil_block X hP d_Fil_clearTail_61 ?_
      obtain ⟨p5, e1, h⟩ := bd_some h
      refine fx_i X (fx_runV (As := [.ref (ad 27)]) X (m_Log_putData_16 e1 _) hP hD kv_Fil_60 ⟨Nat.le_of_ble_eq_true rfl, Nat.le_of_ble_eq_true rfl⟩ 5 rfl rfl rfl hl.1 rfl (Nat.le_of_ble_eq_true rfl) d_Fil_clearTail_64) hD hS (fun H locs hP hD hS => ?_)
      obtain ⟨p6, e1, h⟩ := bd_some h
      refine fx_v X (fx_runV (As := [.int (x1 / (256 : Int32)), .int p5.1]) X (m_Fil_setPlace e1 _) hP hD kv_Fil_66 ⟨Nat.le_of_ble_eq_true rfl, Nat.le_of_ble_eq_true rfl⟩ 6 rfl rfl rfl hl.1 rfl (Nat.le_of_ble_eq_true rfl) d_Fil_clearTail_67) hD hS (fun H locs hP hD hS => ?_)
      cases h
      exact fx_vret X hP hD hS d_Fil_clearTail_70
theorem d_Fil_cutBlock_0 : decode prog_5_method_23_code 0 = .ok (.aload_n 0, 1) := by decide +kernel
theorem d_Fil_cutBlock_1 : decode prog_5_method_23_code 1 = .ok (.iload_n 1, 1) := by decide +kernel
theorem d_Fil_cutBlock_2 : decode prog_5_method_23_code 2 = .ok (.invokevirtual 92, 3) := by decide +kernel
theorem d_Fil_cutBlock_5 : decode prog_5_method_23_code 5 = .ok (.istore_n 2, 1) := by decide +kernel
theorem d_Fil_cutBlock_6 : decode prog_5_method_23_code 6 = .ok (.iload_n 2, 1) := by decide +kernel
theorem d_Fil_cutBlock_7 : decode prog_5_method_23_code 7 = .ok (.ifCond .eq 27, 3) := by decide +kernel
theorem d_Fil_cutBlock_10 : decode prog_5_method_23_code 10 = .ok (.aload_n 0, 1) := by decide +kernel
theorem d_Fil_cutBlock_11 : decode prog_5_method_23_code 11 = .ok (.getfield 19, 3) := by decide +kernel
theorem d_Fil_cutBlock_14 : decode prog_5_method_23_code 14 = .ok (.iload_n 2, 1) := by decide +kernel
theorem d_Fil_cutBlock_15 : decode prog_5_method_23_code 15 = .ok (.invokevirtual 134, 3) := by decide +kernel
theorem d_Fil_cutBlock_18 : decode prog_5_method_23_code 18 = .ok (.aload_n 0, 1) := by decide +kernel
theorem d_Fil_cutBlock_19 : decode prog_5_method_23_code 19 = .ok (.iload_n 1, 1) := by decide +kernel
theorem d_Fil_cutBlock_20 : decode prog_5_method_23_code 20 = .ok (.iconst 0, 1) := by decide +kernel
theorem d_Fil_cutBlock_21 : decode prog_5_method_23_code 21 = .ok (.invokevirtual 66, 3) := by decide +kernel
theorem d_Fil_cutBlock_24 : decode prog_5_method_23_code 24 = .ok (.aload_n 0, 1) := by decide +kernel
theorem d_Fil_cutBlock_25 : decode prog_5_method_23_code 25 = .ok (.getfield 23, 3) := by decide +kernel
theorem d_Fil_cutBlock_28 : decode prog_5_method_23_code 28 = .ok (.iconst 4, 1) := by decide +kernel
theorem d_Fil_cutBlock_29 : decode prog_5_method_23_code 29 = .ok (.dup2, 1) := by decide +kernel
theorem d_Fil_cutBlock_30 : decode prog_5_method_23_code 30 = .ok (.iaload, 1) := by decide +kernel
theorem d_Fil_cutBlock_31 : decode prog_5_method_23_code 31 = .ok (.iconst 1, 1) := by decide +kernel
theorem d_Fil_cutBlock_32 : decode prog_5_method_23_code 32 = .ok (.isub, 1) := by decide +kernel
theorem d_Fil_cutBlock_33 : decode prog_5_method_23_code 33 = .ok (.iastore, 1) := by decide +kernel
theorem d_Fil_cutBlock_34 : decode prog_5_method_23_code 34 = .ok (.return_, 1) := by decide +kernel
set_option maxHeartbeats 4000000 in
set_option maxRecDepth 100000 in
theorem m_Fil_cutBlock {l : Launch} {D : va_G} {ad : Nat → Nat} {ca : Nat → ClassId} {FU : Nat} {x1 : Int32} {g : St} {q : St} (h : Fil_cutBlock FU x1 g = some q) : CV l ⟨"FlashFiles$Files", "cutBlock", "(I)V"⟩ prog_5_method_23_code 3 3 D (tyF ca) (wF ad ca g) [.ref (ad 6), .int x1] (wF ad ca q) := by
  intro sz
  refine Met.fx (Qc := fun A => fxQv D (tyF ca) A (wF ad ca q)) (by decide) (Nat.le_of_ble_eq_true rfl) ?_
  intro p e s m below meth c A ls X hP hD hl
  have hl : lv_has ls 3 [(0, .ref (ad 6)), (1, .int x1)] := hl
  have hS : va_S A s.heap s.heap [] := va_S.rf
  have hx := X.1
  have hb := X.2.1
  unfold Fil_cutBlock at h
  refine lv_aload_n hx hb d_Fil_cutBlock_0 rfl (lv_at hl 0 rfl) ?_
  refine lv_iload_n hx hb d_Fil_cutBlock_1 rfl (lv_at hl 1 rfl) ?_
  obtain ⟨v1, e1, h⟩ := bd_some h
  refine fx_i X (fx_runV (As := [.int x1]) X (m_Fil_placeOf e1 _) hP hD kv_Fil_92 ⟨Nat.le_of_ble_eq_true rfl, Nat.le_of_ble_eq_true rfl⟩ 6 rfl rfl rfl hl.1 rfl (Nat.le_of_ble_eq_true rfl) d_Fil_cutBlock_2) hD hS (fun H locs hP hD hS => ?_)
  refine lv_istore_n hx hb d_Fil_cutBlock_5 rfl hl (by decide) rfl (fun ls hl => ?_)
  have hl : lv_has ls 3 [(2, .int v1), (0, .ref (ad 6)), (1, .int x1)] := hl
  refine lv_iload_n hx hb d_Fil_cutBlock_6 rfl (lv_at hl 0 rfl) ?_
  refine lv_if_eq (tgt := 34) hx hb d_Fil_cutBlock_7 (by decide) (fun hc => ?_) (fun hc => ?_)
  · have h := if_t hc h
    cases h
    exact fx_vret X hP hD hS d_Fil_cutBlock_34
  · have h := if_f hc h
    refine lv_aload_n hx hb d_Fil_cutBlock_10 rfl (lv_at hl 1 rfl) ?_
    refine gF_fil_log X hP d_Fil_cutBlock_11 ?_
    refine lv_iload_n hx hb d_Fil_cutBlock_14 rfl (lv_at hl 0 rfl) ?_
    obtain ⟨p2, e1, h⟩ := bd_some h
    refine fx_v X (fx_runV (As := [.int v1]) X (m_Log_drop e1 _) hP hD kv_Fil_134 ⟨Nat.le_of_ble_eq_true rfl, Nat.le_of_ble_eq_true rfl⟩ 5 rfl rfl rfl hl.1 rfl (Nat.le_of_ble_eq_true rfl) d_Fil_cutBlock_15) hD hS (fun H locs hP hD hS => ?_)
    refine lv_aload_n hx hb d_Fil_cutBlock_18 rfl (lv_at hl 1 rfl) ?_
    refine lv_iload_n hx hb d_Fil_cutBlock_19 rfl (lv_at hl 2 rfl) ?_
    refine lv_iconst (v := 0) hx hb d_Fil_cutBlock_20 (by decide) ?_
    obtain ⟨p3, e1, h⟩ := bd_some h
    refine fx_v X (fx_runV (As := [.int x1, .int (0 : Int32)]) X (m_Fil_setPlace e1 _) hP hD kv_Fil_66 ⟨Nat.le_of_ble_eq_true rfl, Nat.le_of_ble_eq_true rfl⟩ 6 rfl rfl rfl hl.1 rfl (Nat.le_of_ble_eq_true rfl) d_Fil_cutBlock_21) hD hS (fun H locs hP hD hS => ?_)
    refine lv_aload_n hx hb d_Fil_cutBlock_24 rfl (lv_at hl 1 rfl) ?_
    refine gF_fil_inode X hP d_Fil_cutBlock_25 ?_
    refine lv_iconst (v := 4) hx hb d_Fil_cutBlock_28 (by decide) ?_
    refine lv_dup2_11 hx hb d_Fil_cutBlock_29 rfl rfl ?_
    obtain ⟨v4, e1, h⟩ := bd_some h
    refine rF_13 X hP e1 d_Fil_cutBlock_30 ?_
    refine lv_iconst (v := 1) hx hb d_Fil_cutBlock_31 (by decide) ?_
    refine lv_isub hx hb d_Fil_cutBlock_32 ?_
    obtain ⟨g5, e1, h⟩ := bd_some h
    refine sF_13 X hP hD hS e1 d_Fil_cutBlock_33 (fun H locs hP hD hS => ?_)
    cases h
    exact fx_vret X hP hD hS d_Fil_cutBlock_34
theorem d_Fil_numberOf_0 : decode prog_5_method_15_code 0 = .ok (.iload_n 1, 1) := by decide +kernel
theorem d_Fil_numberOf_1 : decode prog_5_method_15_code 1 = .ok (.iconst 3, 1) := by decide +kernel
theorem d_Fil_numberOf_2 : decode prog_5_method_15_code 2 = .ok (.if_icmp .ge 17, 3) := by decide +kernel
theorem d_Fil_numberOf_5 : decode prog_5_method_15_code 5 = .ok (.aload_n 0, 1) := by decide +kernel
theorem d_Fil_numberOf_6 : decode prog_5_method_15_code 6 = .ok (.getfield 23, 3) := by decide +kernel
theorem d_Fil_numberOf_9 : decode prog_5_method_15_code 9 = .ok (.bipush 26, 2) := by decide +kernel
theorem d_Fil_numberOf_11 : decode prog_5_method_15_code 11 = .ok (.iload_n 1, 1) := by decide +kernel
theorem d_Fil_numberOf_12 : decode prog_5_method_15_code 12 = .ok (.iadd, 1) := by decide +kernel
theorem d_Fil_numberOf_13 : decode prog_5_method_15_code 13 = .ok (.iconst 1, 1) := by decide +kernel
theorem d_Fil_numberOf_14 : decode prog_5_method_15_code 14 = .ok (.isub, 1) := by decide +kernel
theorem d_Fil_numberOf_15 : decode prog_5_method_15_code 15 = .ok (.iaload, 1) := by decide +kernel
theorem d_Fil_numberOf_16 : decode prog_5_method_15_code 16 = .ok (.goto 11, 3) := by decide +kernel
theorem d_Fil_numberOf_19 : decode prog_5_method_15_code 19 = .ok (.aload_n 0, 1) := by decide +kernel
theorem d_Fil_numberOf_20 : decode prog_5_method_15_code 20 = .ok (.getfield 27, 3) := by decide +kernel
theorem d_Fil_numberOf_23 : decode prog_5_method_15_code 23 = .ok (.iload_n 1, 1) := by decide +kernel
theorem d_Fil_numberOf_24 : decode prog_5_method_15_code 24 = .ok (.iconst 3, 1) := by decide +kernel
theorem d_Fil_numberOf_25 : decode prog_5_method_15_code 25 = .ok (.isub, 1) := by decide +kernel
theorem d_Fil_numberOf_26 : decode prog_5_method_15_code 26 = .ok (.iaload, 1) := by decide +kernel
theorem d_Fil_numberOf_27 : decode prog_5_method_15_code 27 = .ok (.ireturn, 1) := by decide +kernel
set_option maxHeartbeats 4000000 in
set_option maxRecDepth 100000 in
theorem m_Fil_numberOf {l : Launch} {D : va_G} {ad : Nat → Nat} {ca : Nat → ClassId} {FU : Nat} {x1 : Int32} {g : St} {q : Int32} (h : Fil_numberOf FU x1 g = some q) : CI l ⟨"FlashFiles$Files", "numberOf", "(I)I"⟩ prog_5_method_15_code 2 1 (some .int) D (tyF ca) (wF ad ca g) [.ref (ad 6), .int x1] q (wF ad ca g) := by
  intro sz
  refine Met.fx (Qc := fun A => fxQi D (tyF ca) A (wF ad ca g) q) (by decide) (Nat.le_of_ble_eq_true rfl) ?_
  intro p e s m below meth c A ls X hP hD hl
  have hl : lv_has ls 2 [(0, .ref (ad 6)), (1, .int x1)] := hl
  have hS : va_S A s.heap s.heap [] := va_S.rf
  have hx := X.1
  have hb := X.2.1
  unfold Fil_numberOf at h
  refine lv_iload_n hx hb d_Fil_numberOf_0 rfl (lv_at hl 1 rfl) ?_
  refine lv_iconst (v := 3) hx hb d_Fil_numberOf_1 (by decide) ?_
  refine lv_icmp_ge (tgt := 19) hx hb d_Fil_numberOf_2 (by decide) (fun hc => ?_) (fun hc => ?_)
  · have h := if_t hc h
    refine lv_aload_n hx hb d_Fil_numberOf_19 rfl (lv_at hl 0 rfl) ?_
    refine gF_fil_indirect X hP d_Fil_numberOf_20 ?_
    refine lv_iload_n hx hb d_Fil_numberOf_23 rfl (lv_at hl 1 rfl) ?_
    refine lv_iconst (v := 3) hx hb d_Fil_numberOf_24 (by decide) ?_
    refine lv_isub hx hb d_Fil_numberOf_25 ?_
    obtain ⟨v1, e1, h⟩ := bd_some h
    refine rF_14 X hP e1 d_Fil_numberOf_26 ?_
    cases h
    exact fx_iret X hP hD hS d_Fil_numberOf_27
  · have h := if_f hc h
    refine lv_aload_n hx hb d_Fil_numberOf_5 rfl (lv_at hl 0 rfl) ?_
    refine gF_fil_inode X hP d_Fil_numberOf_6 ?_
    refine lv_bipush (v := 26) hx hb d_Fil_numberOf_9 (by decide) ?_
    refine lv_iload_n hx hb d_Fil_numberOf_11 rfl (lv_at hl 1 rfl) ?_
    refine lv_iadd hx hb d_Fil_numberOf_12 ?_
    refine lv_iconst (v := 1) hx hb d_Fil_numberOf_13 (by decide) ?_
    refine lv_isub hx hb d_Fil_numberOf_14 ?_
    obtain ⟨v2, e1, h⟩ := bd_some h
    refine rF_13 X hP e1 d_Fil_numberOf_15 ?_
    refine lv_goto (tgt := 27) hx hb d_Fil_numberOf_16 (by decide) ?_
    cases h
    exact fx_iret X hP hD hS d_Fil_numberOf_27
theorem d_Fil_setNumber_0 : decode prog_5_method_16_code 0 = .ok (.iload_n 1, 1) := by decide +kernel
theorem d_Fil_setNumber_1 : decode prog_5_method_16_code 1 = .ok (.iconst 3, 1) := by decide +kernel
theorem d_Fil_setNumber_2 : decode prog_5_method_16_code 2 = .ok (.if_icmp .ge 18, 3) := by decide +kernel
theorem d_Fil_setNumber_5 : decode prog_5_method_16_code 5 = .ok (.aload_n 0, 1) := by decide +kernel
theorem d_Fil_setNumber_6 : decode prog_5_method_16_code 6 = .ok (.getfield 23, 3) := by decide +kernel
theorem d_Fil_setNumber_9 : decode prog_5_method_16_code 9 = .ok (.bipush 26, 2) := by decide +kernel
theorem d_Fil_setNumber_11 : decode prog_5_method_16_code 11 = .ok (.iload_n 1, 1) := by decide +kernel
theorem d_Fil_setNumber_12 : decode prog_5_method_16_code 12 = .ok (.iadd, 1) := by decide +kernel
theorem d_Fil_setNumber_13 : decode prog_5_method_16_code 13 = .ok (.iconst 1, 1) := by decide +kernel
theorem d_Fil_setNumber_14 : decode prog_5_method_16_code 14 = .ok (.isub, 1) := by decide +kernel
theorem d_Fil_setNumber_15 : decode prog_5_method_16_code 15 = .ok (.iload_n 2, 1) := by decide +kernel
theorem d_Fil_setNumber_16 : decode prog_5_method_16_code 16 = .ok (.iastore, 1) := by decide +kernel
theorem d_Fil_setNumber_17 : decode prog_5_method_16_code 17 = .ok (.goto 29, 3) := by decide +kernel
theorem d_Fil_setNumber_20 : decode prog_5_method_16_code 20 = .ok (.aload_n 0, 1) := by decide +kernel
theorem d_Fil_setNumber_21 : decode prog_5_method_16_code 21 = .ok (.getfield 27, 3) := by decide +kernel
theorem d_Fil_setNumber_24 : decode prog_5_method_16_code 24 = .ok (.iload_n 1, 1) := by decide +kernel
theorem d_Fil_setNumber_25 : decode prog_5_method_16_code 25 = .ok (.iconst 3, 1) := by decide +kernel
theorem d_Fil_setNumber_26 : decode prog_5_method_16_code 26 = .ok (.isub, 1) := by decide +kernel
theorem d_Fil_setNumber_27 : decode prog_5_method_16_code 27 = .ok (.iaload, 1) := by decide +kernel
theorem d_Fil_setNumber_28 : decode prog_5_method_16_code 28 = .ok (.iload_n 2, 1) := by decide +kernel
theorem d_Fil_setNumber_29 : decode prog_5_method_16_code 29 = .ok (.if_icmp .eq 17, 3) := by decide +kernel
theorem d_Fil_setNumber_32 : decode prog_5_method_16_code 32 = .ok (.aload_n 0, 1) := by decide +kernel
theorem d_Fil_setNumber_33 : decode prog_5_method_16_code 33 = .ok (.getfield 27, 3) := by decide +kernel
theorem d_Fil_setNumber_36 : decode prog_5_method_16_code 36 = .ok (.iload_n 1, 1) := by decide +kernel
theorem d_Fil_setNumber_37 : decode prog_5_method_16_code 37 = .ok (.iconst 3, 1) := by decide +kernel
theorem d_Fil_setNumber_38 : decode prog_5_method_16_code 38 = .ok (.isub, 1) := by decide +kernel
theorem d_Fil_setNumber_39 : decode prog_5_method_16_code 39 = .ok (.iload_n 2, 1) := by decide +kernel
theorem d_Fil_setNumber_40 : decode prog_5_method_16_code 40 = .ok (.iastore, 1) := by decide +kernel
theorem d_Fil_setNumber_41 : decode prog_5_method_16_code 41 = .ok (.aload_n 0, 1) := by decide +kernel
theorem d_Fil_setNumber_42 : decode prog_5_method_16_code 42 = .ok (.iconst 1, 1) := by decide +kernel
theorem d_Fil_setNumber_43 : decode prog_5_method_16_code 43 = .ok (.putfield 151, 3) := by decide +kernel
theorem d_Fil_setNumber_46 : decode prog_5_method_16_code 46 = .ok (.return_, 1) := by decide +kernel
set_option maxHeartbeats 4000000 in
set_option maxRecDepth 100000 in
theorem m_Fil_setNumber {l : Launch} {D : va_G} {ad : Nat → Nat} {ca : Nat → ClassId} {FU : Nat} {x1 : Int32} {x2 : Int32} {g : St} {q : St} (h : Fil_setNumber FU x1 x2 g = some q) : CV l ⟨"FlashFiles$Files", "setNumber", "(II)V"⟩ prog_5_method_16_code 3 1 D (tyF ca) (wF ad ca g) [.ref (ad 6), .int x1, .int x2] (wF ad ca q) := by
  intro sz
  refine Met.fx (Qc := fun A => fxQv D (tyF ca) A (wF ad ca q)) (by decide) (Nat.le_of_ble_eq_true rfl) ?_
  intro p e s m below meth c A ls X hP hD hl
  have hl : lv_has ls 3 [(0, .ref (ad 6)), (1, .int x1), (2, .int x2)] := hl
  have hS : va_S A s.heap s.heap [] := va_S.rf
  have hx := X.1
  have hb := X.2.1
  unfold Fil_setNumber at h
  refine lv_iload_n hx hb d_Fil_setNumber_0 rfl (lv_at hl 1 rfl) ?_
  refine lv_iconst (v := 3) hx hb d_Fil_setNumber_1 (by decide) ?_
  refine lv_icmp_ge (tgt := 20) hx hb d_Fil_setNumber_2 (by decide) (fun hc => ?_) (fun hc => ?_)
  · have h := if_t hc h
    refine lv_aload_n hx hb d_Fil_setNumber_20 rfl (lv_at hl 0 rfl) ?_
    refine gF_fil_indirect X hP d_Fil_setNumber_21 ?_
    refine lv_iload_n hx hb d_Fil_setNumber_24 rfl (lv_at hl 1 rfl) ?_
    refine lv_iconst (v := 3) hx hb d_Fil_setNumber_25 (by decide) ?_
    refine lv_isub hx hb d_Fil_setNumber_26 ?_
    obtain ⟨v1, e1, h⟩ := bd_some h
    refine rF_14 X hP e1 d_Fil_setNumber_27 ?_
    refine lv_iload_n hx hb d_Fil_setNumber_28 rfl (lv_at hl 2 rfl) ?_
    refine lv_icmp_eq (tgt := 46) hx hb d_Fil_setNumber_29 (by decide) (fun hc => ?_) (fun hc => ?_)
    · have h := if_t hc h
      cases h
      exact fx_vret X hP hD hS d_Fil_setNumber_46
    · have h := if_f hc h
      refine lv_aload_n hx hb d_Fil_setNumber_32 rfl (lv_at hl 0 rfl) ?_
      refine gF_fil_indirect X hP d_Fil_setNumber_33 ?_
      refine lv_iload_n hx hb d_Fil_setNumber_36 rfl (lv_at hl 1 rfl) ?_
      refine lv_iconst (v := 3) hx hb d_Fil_setNumber_37 (by decide) ?_
      refine lv_isub hx hb d_Fil_setNumber_38 ?_
      refine lv_iload_n hx hb d_Fil_setNumber_39 rfl (lv_at hl 2 rfl) ?_
      obtain ⟨g2, e1, h⟩ := bd_some h
      refine sF_14 X hP hD hS e1 d_Fil_setNumber_40 (fun H locs hP hD hS => ?_)
      refine lv_aload_n hx hb d_Fil_setNumber_41 rfl (lv_at hl 0 rfl) ?_
      refine lv_iconst (v := 1) hx hb d_Fil_setNumber_42 (by decide) ?_
      obtain ⟨g3, e1, h⟩ := nx_some h
      refine uF_fil_indirectChanged X hP hD hS (Or.inr rfl) e1 d_Fil_setNumber_43 (fun H locs hP hD hS => ?_)
      cases h
      exact fx_vret X hP hD hS d_Fil_setNumber_46
  · have h := if_f hc h
    refine lv_aload_n hx hb d_Fil_setNumber_5 rfl (lv_at hl 0 rfl) ?_
    refine gF_fil_inode X hP d_Fil_setNumber_6 ?_
    refine lv_bipush (v := 26) hx hb d_Fil_setNumber_9 (by decide) ?_
    refine lv_iload_n hx hb d_Fil_setNumber_11 rfl (lv_at hl 1 rfl) ?_
    refine lv_iadd hx hb d_Fil_setNumber_12 ?_
    refine lv_iconst (v := 1) hx hb d_Fil_setNumber_13 (by decide) ?_
    refine lv_isub hx hb d_Fil_setNumber_14 ?_
    refine lv_iload_n hx hb d_Fil_setNumber_15 rfl (lv_at hl 2 rfl) ?_
    obtain ⟨g4, e1, h⟩ := bd_some h
    refine sF_13 X hP hD hS e1 d_Fil_setNumber_16 (fun H locs hP hD hS => ?_)
    refine lv_goto (tgt := 46) hx hb d_Fil_setNumber_17 (by decide) ?_
    cases h
    exact fx_vret X hP hD hS d_Fil_setNumber_46
theorem d_Fil_isEmpty_0 : decode prog_5_method_18_code 0 = .ok (.iconst 0, 1) := by decide +kernel
theorem d_Fil_isEmpty_1 : decode prog_5_method_18_code 1 = .ok (.istore_n 2, 1) := by decide +kernel
theorem d_Fil_isEmpty_2 : decode prog_5_method_18_code 2 = .ok (.iload_n 2, 1) := by decide +kernel
theorem d_Fil_isEmpty_3 : decode prog_5_method_18_code 3 = .ok (.bipush 56, 2) := by decide +kernel
theorem d_Fil_isEmpty_5 : decode prog_5_method_18_code 5 = .ok (.if_icmp .ge 17, 3) := by decide +kernel
theorem d_Fil_isEmpty_8 : decode prog_5_method_18_code 8 = .ok (.aload_n 1, 1) := by decide +kernel
theorem d_Fil_isEmpty_9 : decode prog_5_method_18_code 9 = .ok (.iload_n 2, 1) := by decide +kernel
theorem d_Fil_isEmpty_10 : decode prog_5_method_18_code 10 = .ok (.iaload, 1) := by decide +kernel
theorem d_Fil_isEmpty_11 : decode prog_5_method_18_code 11 = .ok (.ifCond .eq 5, 3) := by decide +kernel
theorem d_Fil_isEmpty_14 : decode prog_5_method_18_code 14 = .ok (.iconst 0, 1) := by decide +kernel
theorem d_Fil_isEmpty_15 : decode prog_5_method_18_code 15 = .ok (.ireturn, 1) := by decide +kernel
theorem d_Fil_isEmpty_16 : decode prog_5_method_18_code 16 = .ok (.iinc 2 1, 3) := by decide +kernel
theorem d_Fil_isEmpty_19 : decode prog_5_method_18_code 19 = .ok (.goto (-17), 3) := by decide +kernel
theorem d_Fil_isEmpty_22 : decode prog_5_method_18_code 22 = .ok (.iconst 1, 1) := by decide +kernel
theorem d_Fil_isEmpty_23 : decode prog_5_method_18_code 23 = .ok (.ireturn, 1) := by decide +kernel
set_option maxHeartbeats 4000000 in
set_option maxRecDepth 100000 in
theorem v_Fil_isEmpty_2_15 {p : Program} {l : Launch} {e : Env} {s : State} {m : MethodId} {args : Array Value} {below : List Frame} {meth : Method} {c : Code} {D : va_G} {ad : Nat → Nat} {ca : Nat → ClassId} {A : Nat → Prop} {FU : Nat} {q : Int32} {g : St} (X : FX p s m meth c prog_5_method_18_code 3 (some .boolean) "FlashFiles$Files" D (tyF ca) A) : ∀ (n : Nat), ∀ (y2 : Int32) (H : Heap) (locs : List Loc) (ls : Array Slot), va_P D cls (wF ad ca g) H → va_D A (wF ad ca g) → va_S A s.heap H locs → lv_has ls 3 [(1, .ref (ad 26)), (2, .int y2)] → Fil_isEmpty_b2 FU 15 n y2 g = some q → W p l e (rmN 1) s m args below meth c H locs 0 0 (MQ below (fxQi D (tyF ca) A (wF ad ca g) q) args s 0 0 A) (F0 m 2 ls []) := by
  have hx := X.1
  have hb := X.2.1
  intro n
  induction n with
  | zero =>
    intro y2 H locs ls hP hD hS hl h
    cases h
  | succ n ih =>
    intro y2 H locs ls hP hD hS hl h
    have h := h
    rw [Fil_isEmpty_b2.eq_2] at h
    refine lv_iload_n hx hb d_Fil_isEmpty_2 rfl (lv_at hl 1 rfl) ?_
    refine lv_bipush (v := 56) hx hb d_Fil_isEmpty_3 (by decide) ?_
    refine lv_icmp_ge (tgt := 22) hx hb d_Fil_isEmpty_5 (by decide) (fun hc => ?_) (fun hc => ?_)
    · have h := if_t hc h
      refine lv_iconst (v := 1) hx hb d_Fil_isEmpty_22 (by decide) ?_
      cases h
      exact fx_zret X hP hD hS (Or.inr rfl) d_Fil_isEmpty_23
    · have h := if_f hc h
      refine lv_aload_n hx hb d_Fil_isEmpty_8 rfl (lv_at hl 0 rfl) ?_
      refine lv_iload_n hx hb d_Fil_isEmpty_9 rfl (lv_at hl 1 rfl) ?_
      obtain ⟨v1, e1, h⟩ := bd_some h
      refine rF_15 X hP e1 d_Fil_isEmpty_10 ?_
      refine lv_if_eq (tgt := 16) hx hb d_Fil_isEmpty_11 (by decide) (fun hc => ?_) (fun hc => ?_)
      · have h := if_t hc h
        refine lv_iinc (k := 1) (v := (y2 + (1 : Int32))) hx hb d_Fil_isEmpty_16 hl rfl (oi_1 _) (by decide) rfl (fun ls hl => ?_)
        have hl : lv_has ls 3 [(2, .int (y2 + (1 : Int32))), (1, .ref (ad 26))] := hl
        refine lv_goto (tgt := 2) hx hb d_Fil_isEmpty_19 (by decide) ?_
        exact ih _ _ _ _ hP hD hS (lv_sub hl [1, 0] rfl) h
      · have h := if_f hc h
        refine lv_iconst (v := 0) hx hb d_Fil_isEmpty_14 (by decide) ?_
        cases h
        exact fx_zret X hP hD hS (Or.inl rfl) d_Fil_isEmpty_15
set_option maxHeartbeats 4000000 in
set_option maxRecDepth 100000 in
theorem m_Fil_isEmpty_15 {l : Launch} {D : va_G} {ad : Nat → Nat} {ca : Nat → ClassId} {FU : Nat} {g : St} {q : Int32} (h : Fil_isEmpty FU 15 g = some q) : CI l ⟨"FlashFiles$Files", "isEmpty", "([I)Z"⟩ prog_5_method_18_code 3 1 (some .boolean) D (tyF ca) (wF ad ca g) [.ref (ad 6), .ref (ad 26)] q (wF ad ca g) := by
  intro sz
  refine Met.fx (Qc := fun A => fxQi D (tyF ca) A (wF ad ca g) q) (by decide) (Nat.le_of_ble_eq_true rfl) ?_
  intro p e s m below meth c A ls X hP hD hl
  have hl : lv_has ls 3 [(0, .ref (ad 6)), (1, .ref (ad 26))] := hl
  have hS : va_S A s.heap s.heap [] := va_S.rf
  have hx := X.1
  have hb := X.2.1
  unfold Fil_isEmpty at h
  refine lv_iconst (v := 0) hx hb d_Fil_isEmpty_0 (by decide) ?_
  refine lv_istore_n hx hb d_Fil_isEmpty_1 rfl hl (by decide) rfl (fun ls hl => ?_)
  have hl : lv_has ls 3 [(2, .int (0 : Int32)), (0, .ref (ad 6)), (1, .ref (ad 26))] := hl
  exact v_Fil_isEmpty_2_15 X  _ _ _ _ _ hP hD hS (lv_sub hl [2, 0] rfl) h
theorem d_Fil_storeNode_0 : decode prog_5_method_17_code 0 = .ok (.aload_n 0, 1) := by decide +kernel
theorem d_Fil_storeNode_1 : decode prog_5_method_17_code 1 = .ok (.aload_n 2, 1) := by decide +kernel
theorem d_Fil_storeNode_2 : decode prog_5_method_17_code 2 = .ok (.invokevirtual 184, 3) := by decide +kernel
theorem d_Fil_storeNode_5 : decode prog_5_method_17_code 5 = .ok (.ifCond .eq 13, 3) := by decide +kernel
theorem d_Fil_storeNode_8 : decode prog_5_method_17_code 8 = .ok (.aload_n 0, 1) := by decide +kernel
theorem d_Fil_storeNode_9 : decode prog_5_method_17_code 9 = .ok (.getfield 19, 3) := by decide +kernel
theorem d_Fil_storeNode_12 : decode prog_5_method_17_code 12 = .ok (.iload_n 1, 1) := by decide +kernel
theorem d_Fil_storeNode_13 : decode prog_5_method_17_code 13 = .ok (.invokevirtual 137, 3) := by decide +kernel
theorem d_Fil_storeNode_16 : decode prog_5_method_17_code 16 = .ok (.iconst 0, 1) := by decide +kernel
theorem d_Fil_storeNode_17 : decode prog_5_method_17_code 17 = .ok (.ireturn, 1) := by decide +kernel
theorem d_Fil_storeNode_18 : decode prog_5_method_17_code 18 = .ok (.iload_n 1, 1) := by decide +kernel
theorem d_Fil_storeNode_19 : decode prog_5_method_17_code 19 = .ok (.ifCond .ne 13, 3) := by decide +kernel
theorem d_Fil_storeNode_22 : decode prog_5_method_17_code 22 = .ok (.aload_n 0, 1) := by decide +kernel
theorem d_Fil_storeNode_23 : decode prog_5_method_17_code 23 = .ok (.getfield 15, 3) := by decide +kernel
theorem d_Fil_storeNode_26 : decode prog_5_method_17_code 26 = .ok (.invokevirtual 188, 3) := by decide +kernel
theorem d_Fil_storeNode_29 : decode prog_5_method_17_code 29 = .ok (.goto 4, 3) := by decide +kernel
theorem d_Fil_storeNode_32 : decode prog_5_method_17_code 32 = .ok (.iload_n 1, 1) := by decide +kernel
theorem d_Fil_storeNode_33 : decode prog_5_method_17_code 33 = .ok (.istore 4, 2) := by decide +kernel
theorem d_Fil_storeNode_35 : decode prog_5_method_17_code 35 = .ok (.aload_n 2, 1) := by decide +kernel
theorem d_Fil_storeNode_36 : decode prog_5_method_17_code 36 = .ok (.bipush 61, 2) := by decide +kernel
theorem d_Fil_storeNode_38 : decode prog_5_method_17_code 38 = .ok (.aload_n 0, 1) := by decide +kernel
theorem d_Fil_storeNode_39 : decode prog_5_method_17_code 39 = .ok (.getfield 140, 3) := by decide +kernel
theorem d_Fil_storeNode_42 : decode prog_5_method_17_code 42 = .ok (.iastore, 1) := by decide +kernel
theorem d_Fil_storeNode_43 : decode prog_5_method_17_code 43 = .ok (.aload_n 2, 1) := by decide +kernel
theorem d_Fil_storeNode_44 : decode prog_5_method_17_code 44 = .ok (.bipush 58, 2) := by decide +kernel
theorem d_Fil_storeNode_46 : decode prog_5_method_17_code 46 = .ok (.iload_n 3, 1) := by decide +kernel
theorem d_Fil_storeNode_47 : decode prog_5_method_17_code 47 = .ok (.iastore, 1) := by decide +kernel
theorem d_Fil_storeNode_48 : decode prog_5_method_17_code 48 = .ok (.aload_n 0, 1) := by decide +kernel
theorem d_Fil_storeNode_49 : decode prog_5_method_17_code 49 = .ok (.getfield 19, 3) := by decide +kernel
theorem d_Fil_storeNode_52 : decode prog_5_method_17_code 52 = .ok (.iload 4, 2) := by decide +kernel
theorem d_Fil_storeNode_54 : decode prog_5_method_17_code 54 = .ok (.aload_n 2, 1) := by decide +kernel
theorem d_Fil_storeNode_55 : decode prog_5_method_17_code 55 = .ok (.iconst 0, 1) := by decide +kernel
theorem d_Fil_storeNode_56 : decode prog_5_method_17_code 56 = .ok (.invokevirtual 180, 3) := by decide +kernel
theorem d_Fil_storeNode_59 : decode prog_5_method_17_code 59 = .ok (.iload 4, 2) := by decide +kernel
theorem d_Fil_storeNode_61 : decode prog_5_method_17_code 61 = .ok (.ireturn, 1) := by decide +kernel
set_option maxHeartbeats 4000000 in
set_option maxRecDepth 100000 in
theorem v_Fil_storeNode_33_15 {p : Program} {l : Launch} {e : Env} {s : State} {m : MethodId} {args : Array Value} {below : List Frame} {meth : Method} {c : Code} {D : va_G} {ad : Nat → Nat} {ca : Nat → ClassId} {A : Nat → Prop} {FU : Nat} {q : Int32 × St} (X : FX p s m meth c prog_5_method_17_code 5 (some .int) "FlashFiles$Files" D (tyF ca) A) {y3 : Int32} {z0 : Int32} {g : St} {H : Heap} {locs : List Loc} {ls : Array Slot} (hP : va_P D cls (wF ad ca g) H) (hD : va_D A (wF ad ca g)) (hS : va_S A s.heap H locs) (hl : lv_has ls 5 [(0, .ref (ad 6)), (2, .ref (ad 26)), (3, .int y3)]) (h : Fil_storeNode_b33 FU 15 y3 z0 g = some q) : W p l e (rmN 4) s m args below meth c H locs 0 0 (MQ below (fxQi D (tyF ca) A (wF ad ca q.2) q.1) args s 0 0 A) (F0 m 33 ls [.int z0]) := by
  have hx := X.1
  have hb := X.2.1
  unfold Fil_storeNode_b33 at h
  refine lv_istore hx hb d_Fil_storeNode_33 hl (by decide) rfl (fun ls hl => ?_)
  have hl : lv_has ls 5 [(4, .int z0), (0, .ref (ad 6)), (2, .ref (ad 26)), (3, .int y3)] := hl
  refine lv_aload_n hx hb d_Fil_storeNode_35 rfl (lv_at hl 2 rfl) ?_
  refine lv_bipush (v := 61) hx hb d_Fil_storeNode_36 (by decide) ?_
  refine lv_aload_n hx hb d_Fil_storeNode_38 rfl (lv_at hl 1 rfl) ?_
  refine gF_fil_id X hP d_Fil_storeNode_39 ?_
  obtain ⟨g1, e1, h⟩ := bd_some h
  refine sF_15 X hP hD hS e1 d_Fil_storeNode_42 (fun H locs hP hD hS => ?_)
  refine lv_aload_n hx hb d_Fil_storeNode_43 rfl (lv_at hl 2 rfl) ?_
  refine lv_bipush (v := 58) hx hb d_Fil_storeNode_44 (by decide) ?_
  refine lv_iload_n hx hb d_Fil_storeNode_46 rfl (lv_at hl 3 rfl) ?_
  obtain ⟨g2, e1, h⟩ := bd_some h
  refine sF_15 X hP hD hS e1 d_Fil_storeNode_47 (fun H locs hP hD hS => ?_)
  refine lv_aload_n hx hb d_Fil_storeNode_48 rfl (lv_at hl 1 rfl) ?_
  refine gF_fil_log X hP d_Fil_storeNode_49 ?_
  refine lv_iload hx hb d_Fil_storeNode_52 (lv_at hl 0 rfl) ?_
  refine lv_aload_n hx hb d_Fil_storeNode_54 rfl (lv_at hl 2 rfl) ?_
  refine lv_iconst (v := 0) hx hb d_Fil_storeNode_55 (by decide) ?_
  obtain ⟨p3, e1, h⟩ := bd_some h
  refine fx_v X (fx_runV (As := [.int z0, .ref (ad 26), .int (0 : Int32)]) X (m_Log_putNode_15 e1 _) hP hD kv_Fil_180 ⟨Nat.le_of_ble_eq_true rfl, Nat.le_of_ble_eq_true rfl⟩ 5 rfl rfl rfl hl.1 rfl (Nat.le_of_ble_eq_true rfl) d_Fil_storeNode_56) hD hS (fun H locs hP hD hS => ?_)
  refine lv_iload hx hb d_Fil_storeNode_59 (lv_at hl 0 rfl) ?_
  cases h
  exact fx_iret X hP hD hS d_Fil_storeNode_61
set_option maxHeartbeats 4000000 in
set_option maxRecDepth 100000 in
theorem m_Fil_storeNode_15 {l : Launch} {D : va_G} {ad : Nat → Nat} {ca : Nat → ClassId} {FU : Nat} {x1 : Int32} {x3 : Int32} {g : St} {q : Int32 × St} (h : Fil_storeNode FU 15 x1 x3 g = some q) : CI l ⟨"FlashFiles$Files", "storeNode", "(I[II)I"⟩ prog_5_method_17_code 5 4 (some .int) D (tyF ca) (wF ad ca g) [.ref (ad 6), .int x1, .ref (ad 26), .int x3] q.1 (wF ad ca q.2) := by
  intro sz
  refine Met.fx (Qc := fun A => fxQi D (tyF ca) A (wF ad ca q.2) q.1) (by decide) (Nat.le_of_ble_eq_true rfl) ?_
  intro p e s m below meth c A ls X hP hD hl
  have hl : lv_has ls 5 [(0, .ref (ad 6)), (1, .int x1), (2, .ref (ad 26)), (3, .int x3)] := hl
  have hS : va_S A s.heap s.heap [] := va_S.rf
  have hx := X.1
  have hb := X.2.1
  unfold Fil_storeNode at h
  refine lv_aload_n hx hb d_Fil_storeNode_0 rfl (lv_at hl 0 rfl) ?_
  refine lv_aload_n hx hb d_Fil_storeNode_1 rfl (lv_at hl 2 rfl) ?_
  obtain ⟨v4, e1, h⟩ := bd_some h
  refine fx_i X (fx_runV (As := [.ref (ad 26)]) X (m_Fil_isEmpty_15 e1 _) hP hD kv_Fil_184 ⟨Nat.le_of_ble_eq_true rfl, Nat.le_of_ble_eq_true rfl⟩ 6 rfl rfl rfl hl.1 rfl (Nat.le_of_ble_eq_true rfl) d_Fil_storeNode_2) hD hS (fun H locs hP hD hS => ?_)
  refine lv_if_eq (tgt := 18) hx hb d_Fil_storeNode_5 (by decide) (fun hc => ?_) (fun hc => ?_)
  · have h := if_t hc h
    refine lv_iload_n hx hb d_Fil_storeNode_18 rfl (lv_at hl 1 rfl) ?_
    refine lv_if_ne (tgt := 32) hx hb d_Fil_storeNode_19 (by decide) (fun hc => ?_) (fun hc => ?_)
    · have h := if_f hc h
      refine lv_iload_n hx hb d_Fil_storeNode_32 rfl (lv_at hl 1 rfl) ?_
      exact v_Fil_storeNode_33_15 X  hP hD hS (lv_sub hl [0, 2, 3] rfl) h
    · have h := if_t hc h
      refine lv_aload_n hx hb d_Fil_storeNode_22 rfl (lv_at hl 0 rfl) ?_
      refine gF_fil_table X hP d_Fil_storeNode_23 ?_
      obtain ⟨p5, e1, h⟩ := bd_some h
      refine fx_i X (fx_runV (As := []) X (m_Tab_giveNumber e1 _) hP hD kv_Fil_188 ⟨Nat.le_of_ble_eq_true rfl, Nat.le_of_ble_eq_true rfl⟩ 4 rfl rfl rfl hl.1 rfl (Nat.le_of_ble_eq_true rfl) d_Fil_storeNode_26) hD hS (fun H locs hP hD hS => ?_)
      refine lv_goto (tgt := 33) hx hb d_Fil_storeNode_29 (by decide) ?_
      exact v_Fil_storeNode_33_15 X  hP hD hS (lv_sub hl [0, 2, 3] rfl) h
  · have h := if_f hc h
    refine lv_aload_n hx hb d_Fil_storeNode_8 rfl (lv_at hl 0 rfl) ?_
    refine gF_fil_log X hP d_Fil_storeNode_9 ?_
    refine lv_iload_n hx hb d_Fil_storeNode_12 rfl (lv_at hl 1 rfl) ?_
    obtain ⟨p6, e1, h⟩ := bd_some h
    refine fx_v X (fx_runV (As := [.int x1]) X (m_Log_dropNode e1 _) hP hD kv_Fil_137 ⟨Nat.le_of_ble_eq_true rfl, Nat.le_of_ble_eq_true rfl⟩ 5 rfl rfl rfl hl.1 rfl (Nat.le_of_ble_eq_true rfl) d_Fil_storeNode_13) hD hS (fun H locs hP hD hS => ?_)
    refine lv_iconst (v := 0) hx hb d_Fil_storeNode_16 (by decide) ?_
    cases h
    exact fx_iret X hP hD hS d_Fil_storeNode_17
theorem d_Fil_closeNode_0 : decode prog_5_method_13_code 0 = .ok (.aload_n 0, 1) := by decide +kernel
theorem d_Fil_closeNode_1 : decode prog_5_method_13_code 1 = .ok (.getfield 147, 3) := by decide +kernel
theorem d_Fil_closeNode_4 : decode prog_5_method_13_code 4 = .ok (.ifCond .eq 33, 3) := by decide +kernel
theorem d_Fil_closeNode_7 : decode prog_5_method_13_code 7 = .ok (.aload_n 0, 1) := by decide +kernel
theorem d_Fil_closeNode_8 : decode prog_5_method_13_code 8 = .ok (.aload_n 0, 1) := by decide +kernel
theorem d_Fil_closeNode_9 : decode prog_5_method_13_code 9 = .ok (.getfield 144, 3) := by decide +kernel
theorem d_Fil_closeNode_12 : decode prog_5_method_13_code 12 = .ok (.aload_n 0, 1) := by decide +kernel
theorem d_Fil_closeNode_13 : decode prog_5_method_13_code 13 = .ok (.aload_n 0, 1) := by decide +kernel
theorem d_Fil_closeNode_14 : decode prog_5_method_13_code 14 = .ok (.aload_n 0, 1) := by decide +kernel
theorem d_Fil_closeNode_15 : decode prog_5_method_13_code 15 = .ok (.getfield 144, 3) := by decide +kernel
theorem d_Fil_closeNode_18 : decode prog_5_method_13_code 18 = .ok (.invokevirtual 164, 3) := by decide +kernel
theorem d_Fil_closeNode_21 : decode prog_5_method_13_code 21 = .ok (.aload_n 0, 1) := by decide +kernel
theorem d_Fil_closeNode_22 : decode prog_5_method_13_code 22 = .ok (.getfield 30, 3) := by decide +kernel
theorem d_Fil_closeNode_25 : decode prog_5_method_13_code 25 = .ok (.iconst 1, 1) := by decide +kernel
theorem d_Fil_closeNode_26 : decode prog_5_method_13_code 26 = .ok (.invokevirtual 173, 3) := by decide +kernel
theorem d_Fil_closeNode_29 : decode prog_5_method_13_code 29 = .ok (.invokevirtual 177, 3) := by decide +kernel
theorem d_Fil_closeNode_32 : decode prog_5_method_13_code 32 = .ok (.aload_n 0, 1) := by decide +kernel
theorem d_Fil_closeNode_33 : decode prog_5_method_13_code 33 = .ok (.iconst 0, 1) := by decide +kernel
theorem d_Fil_closeNode_34 : decode prog_5_method_13_code 34 = .ok (.putfield 147, 3) := by decide +kernel
theorem d_Fil_closeNode_37 : decode prog_5_method_13_code 37 = .ok (.return_, 1) := by decide +kernel
set_option maxHeartbeats 4000000 in
set_option maxRecDepth 100000 in
theorem m_Fil_closeNode {l : Launch} {D : va_G} {ad : Nat → Nat} {ca : Nat → ClassId} {FU : Nat} {g : St} {q : St} (h : Fil_closeNode FU  g = some q) : CV l ⟨"FlashFiles$Files", "closeNode", "()V"⟩ prog_5_method_13_code 1 5 D (tyF ca) (wF ad ca g) [.ref (ad 6)] (wF ad ca q) := by
  intro sz
  refine Met.fx (Qc := fun A => fxQv D (tyF ca) A (wF ad ca q)) (by decide) (Nat.le_of_ble_eq_true rfl) ?_
  intro p e s m below meth c A ls X hP hD hl
  have hl : lv_has ls 1 [(0, .ref (ad 6))] := hl
  have hS : va_S A s.heap s.heap [] := va_S.rf
  have hx := X.1
  have hb := X.2.1
  unfold Fil_closeNode at h
  refine lv_aload_n hx hb d_Fil_closeNode_0 rfl (lv_at hl 0 rfl) ?_
  refine gF_fil_directChanged X hP d_Fil_closeNode_1 ?_
  refine lv_if_eq (tgt := 37) hx hb d_Fil_closeNode_4 (by decide) (fun hc => ?_) (fun hc => ?_)
  · have h := if_t hc h
    cases h
    exact fx_vret X hP hD hS d_Fil_closeNode_37
  · have h := if_f hc h
    refine lv_aload_n hx hb d_Fil_closeNode_7 rfl (lv_at hl 0 rfl) ?_
    refine lv_aload_n hx hb d_Fil_closeNode_8 rfl (lv_at hl 0 rfl) ?_
    refine gF_fil_opened X hP d_Fil_closeNode_9 ?_
    refine lv_aload_n hx hb d_Fil_closeNode_12 rfl (lv_at hl 0 rfl) ?_
    refine lv_aload_n hx hb d_Fil_closeNode_13 rfl (lv_at hl 0 rfl) ?_
    refine lv_aload_n hx hb d_Fil_closeNode_14 rfl (lv_at hl 0 rfl) ?_
    refine gF_fil_opened X hP d_Fil_closeNode_15 ?_
    obtain ⟨v1, e1, h⟩ := bd_some h
    refine fx_i X (fx_runV (As := [.int (g.1 13)]) X (m_Fil_numberOf e1 _) hP hD kv_Fil_164 ⟨Nat.le_of_ble_eq_true rfl, Nat.le_of_ble_eq_true rfl⟩ 6 rfl rfl rfl hl.1 rfl (Nat.le_of_ble_eq_true rfl) d_Fil_closeNode_18) hD hS (fun H locs hP hD hS => ?_)
    refine lv_aload_n hx hb d_Fil_closeNode_21 rfl (lv_at hl 0 rfl) ?_
    refine gF_fil_direct X hP d_Fil_closeNode_22 ?_
    refine lv_iconst (v := 1) hx hb d_Fil_closeNode_25 (by decide) ?_
    obtain ⟨p2, e1, h⟩ := bd_some h
    refine fx_i X (fx_runV (As := [.int v1, .ref (ad 26), .int (1 : Int32)]) X (m_Fil_storeNode_15 e1 _) hP hD kv_Fil_173 ⟨Nat.le_of_ble_eq_true rfl, Nat.le_of_ble_eq_true rfl⟩ 6 rfl rfl rfl hl.1 rfl (Nat.le_of_ble_eq_true rfl) d_Fil_closeNode_26) hD hS (fun H locs hP hD hS => ?_)
    obtain ⟨p3, e1, h⟩ := bd_some h
    refine fx_v X (fx_runV (As := [.int (g.1 13), .int p2.1]) X (m_Fil_setNumber e1 _) hP hD kv_Fil_177 ⟨Nat.le_of_ble_eq_true rfl, Nat.le_of_ble_eq_true rfl⟩ 6 rfl rfl rfl hl.1 rfl (Nat.le_of_ble_eq_true rfl) d_Fil_closeNode_29) hD hS (fun H locs hP hD hS => ?_)
    refine lv_aload_n hx hb d_Fil_closeNode_32 rfl (lv_at hl 0 rfl) ?_
    refine lv_iconst (v := 0) hx hb d_Fil_closeNode_33 (by decide) ?_
    obtain ⟨g4, e1, h⟩ := nx_some h
    refine uF_fil_directChanged X hP hD hS (Or.inl rfl) e1 d_Fil_closeNode_34 (fun H locs hP hD hS => ?_)
    cases h
    exact fx_vret X hP hD hS d_Fil_closeNode_37
set_option maxHeartbeats 4000000 in
set_option maxRecDepth 100000 in
theorem v_Fil_isEmpty_2_14 {p : Program} {l : Launch} {e : Env} {s : State} {m : MethodId} {args : Array Value} {below : List Frame} {meth : Method} {c : Code} {D : va_G} {ad : Nat → Nat} {ca : Nat → ClassId} {A : Nat → Prop} {FU : Nat} {q : Int32} {g : St} (X : FX p s m meth c prog_5_method_18_code 3 (some .boolean) "FlashFiles$Files" D (tyF ca) A) : ∀ (n : Nat), ∀ (y2 : Int32) (H : Heap) (locs : List Loc) (ls : Array Slot), va_P D cls (wF ad ca g) H → va_D A (wF ad ca g) → va_S A s.heap H locs → lv_has ls 3 [(1, .ref (ad 25)), (2, .int y2)] → Fil_isEmpty_b2 FU 14 n y2 g = some q → W p l e (rmN 1) s m args below meth c H locs 0 0 (MQ below (fxQi D (tyF ca) A (wF ad ca g) q) args s 0 0 A) (F0 m 2 ls []) := by
  have hx := X.1
  have hb := X.2.1
  intro n
  induction n with
  | zero =>
    intro y2 H locs ls hP hD hS hl h
    cases h
  | succ n ih =>
    intro y2 H locs ls hP hD hS hl h
    have h := h
    rw [Fil_isEmpty_b2.eq_2] at h
    refine lv_iload_n hx hb d_Fil_isEmpty_2 rfl (lv_at hl 1 rfl) ?_
    refine lv_bipush (v := 56) hx hb d_Fil_isEmpty_3 (by decide) ?_
    refine lv_icmp_ge (tgt := 22) hx hb d_Fil_isEmpty_5 (by decide) (fun hc => ?_) (fun hc => ?_)
    · have h := if_t hc h
      refine lv_iconst (v := 1) hx hb d_Fil_isEmpty_22 (by decide) ?_
      cases h
      exact fx_zret X hP hD hS (Or.inr rfl) d_Fil_isEmpty_23
    · have h := if_f hc h
      refine lv_aload_n hx hb d_Fil_isEmpty_8 rfl (lv_at hl 0 rfl) ?_
      refine lv_iload_n hx hb d_Fil_isEmpty_9 rfl (lv_at hl 1 rfl) ?_
      obtain ⟨v1, e1, h⟩ := bd_some h
      refine rF_14 X hP e1 d_Fil_isEmpty_10 ?_
      refine lv_if_eq (tgt := 16) hx hb d_Fil_isEmpty_11 (by decide) (fun hc => ?_) (fun hc => ?_)
      · have h := if_t hc h
        refine lv_iinc (k := 1) (v := (y2 + (1 : Int32))) hx hb d_Fil_isEmpty_16 hl rfl (oi_1 _) (by decide) rfl (fun ls hl => ?_)
        have hl : lv_has ls 3 [(2, .int (y2 + (1 : Int32))), (1, .ref (ad 25))] := hl
        refine lv_goto (tgt := 2) hx hb d_Fil_isEmpty_19 (by decide) ?_
        exact ih _ _ _ _ hP hD hS (lv_sub hl [1, 0] rfl) h
      · have h := if_f hc h
        refine lv_iconst (v := 0) hx hb d_Fil_isEmpty_14 (by decide) ?_
        cases h
        exact fx_zret X hP hD hS (Or.inl rfl) d_Fil_isEmpty_15
set_option maxHeartbeats 4000000 in
set_option maxRecDepth 100000 in
theorem m_Fil_isEmpty_14 {l : Launch} {D : va_G} {ad : Nat → Nat} {ca : Nat → ClassId} {FU : Nat} {g : St} {q : Int32} (h : Fil_isEmpty FU 14 g = some q) : CI l ⟨"FlashFiles$Files", "isEmpty", "([I)Z"⟩ prog_5_method_18_code 3 1 (some .boolean) D (tyF ca) (wF ad ca g) [.ref (ad 6), .ref (ad 25)] q (wF ad ca g) := by
  intro sz
  refine Met.fx (Qc := fun A => fxQi D (tyF ca) A (wF ad ca g) q) (by decide) (Nat.le_of_ble_eq_true rfl) ?_
  intro p e s m below meth c A ls X hP hD hl
  have hl : lv_has ls 3 [(0, .ref (ad 6)), (1, .ref (ad 25))] := hl
  have hS : va_S A s.heap s.heap [] := va_S.rf
  have hx := X.1
  have hb := X.2.1
  unfold Fil_isEmpty at h
  refine lv_iconst (v := 0) hx hb d_Fil_isEmpty_0 (by decide) ?_
  refine lv_istore_n hx hb d_Fil_isEmpty_1 rfl hl (by decide) rfl (fun ls hl => ?_)
  have hl : lv_has ls 3 [(2, .int (0 : Int32)), (0, .ref (ad 6)), (1, .ref (ad 25))] := hl
  exact v_Fil_isEmpty_2_14 X  _ _ _ _ _ hP hD hS (lv_sub hl [2, 0] rfl) h
set_option maxHeartbeats 4000000 in
set_option maxRecDepth 100000 in
theorem v_Fil_storeNode_33_14 {p : Program} {l : Launch} {e : Env} {s : State} {m : MethodId} {args : Array Value} {below : List Frame} {meth : Method} {c : Code} {D : va_G} {ad : Nat → Nat} {ca : Nat → ClassId} {A : Nat → Prop} {FU : Nat} {q : Int32 × St} (X : FX p s m meth c prog_5_method_17_code 5 (some .int) "FlashFiles$Files" D (tyF ca) A) {y3 : Int32} {z0 : Int32} {g : St} {H : Heap} {locs : List Loc} {ls : Array Slot} (hP : va_P D cls (wF ad ca g) H) (hD : va_D A (wF ad ca g)) (hS : va_S A s.heap H locs) (hl : lv_has ls 5 [(0, .ref (ad 6)), (2, .ref (ad 25)), (3, .int y3)]) (h : Fil_storeNode_b33 FU 14 y3 z0 g = some q) : W p l e (rmN 4) s m args below meth c H locs 0 0 (MQ below (fxQi D (tyF ca) A (wF ad ca q.2) q.1) args s 0 0 A) (F0 m 33 ls [.int z0]) := by
  have hx := X.1
  have hb := X.2.1
  unfold Fil_storeNode_b33 at h
  refine lv_istore hx hb d_Fil_storeNode_33 hl (by decide) rfl (fun ls hl => ?_)
  have hl : lv_has ls 5 [(4, .int z0), (0, .ref (ad 6)), (2, .ref (ad 25)), (3, .int y3)] := hl
  refine lv_aload_n hx hb d_Fil_storeNode_35 rfl (lv_at hl 2 rfl) ?_
  refine lv_bipush (v := 61) hx hb d_Fil_storeNode_36 (by decide) ?_
  refine lv_aload_n hx hb d_Fil_storeNode_38 rfl (lv_at hl 1 rfl) ?_
  refine gF_fil_id X hP d_Fil_storeNode_39 ?_
  obtain ⟨g1, e1, h⟩ := bd_some h
  refine sF_14 X hP hD hS e1 d_Fil_storeNode_42 (fun H locs hP hD hS => ?_)
  refine lv_aload_n hx hb d_Fil_storeNode_43 rfl (lv_at hl 2 rfl) ?_
  refine lv_bipush (v := 58) hx hb d_Fil_storeNode_44 (by decide) ?_
  refine lv_iload_n hx hb d_Fil_storeNode_46 rfl (lv_at hl 3 rfl) ?_
  obtain ⟨g2, e1, h⟩ := bd_some h
  refine sF_14 X hP hD hS e1 d_Fil_storeNode_47 (fun H locs hP hD hS => ?_)
  refine lv_aload_n hx hb d_Fil_storeNode_48 rfl (lv_at hl 1 rfl) ?_
  refine gF_fil_log X hP d_Fil_storeNode_49 ?_
  refine lv_iload hx hb d_Fil_storeNode_52 (lv_at hl 0 rfl) ?_
  refine lv_aload_n hx hb d_Fil_storeNode_54 rfl (lv_at hl 2 rfl) ?_
  refine lv_iconst (v := 0) hx hb d_Fil_storeNode_55 (by decide) ?_
  obtain ⟨p3, e1, h⟩ := bd_some h
  refine fx_v X (fx_runV (As := [.int z0, .ref (ad 25), .int (0 : Int32)]) X (m_Log_putNode_14 e1 _) hP hD kv_Fil_180 ⟨Nat.le_of_ble_eq_true rfl, Nat.le_of_ble_eq_true rfl⟩ 5 rfl rfl rfl hl.1 rfl (Nat.le_of_ble_eq_true rfl) d_Fil_storeNode_56) hD hS (fun H locs hP hD hS => ?_)
  refine lv_iload hx hb d_Fil_storeNode_59 (lv_at hl 0 rfl) ?_
  cases h
  exact fx_iret X hP hD hS d_Fil_storeNode_61
set_option maxHeartbeats 4000000 in
set_option maxRecDepth 100000 in
theorem m_Fil_storeNode_14 {l : Launch} {D : va_G} {ad : Nat → Nat} {ca : Nat → ClassId} {FU : Nat} {x1 : Int32} {x3 : Int32} {g : St} {q : Int32 × St} (h : Fil_storeNode FU 14 x1 x3 g = some q) : CI l ⟨"FlashFiles$Files", "storeNode", "(I[II)I"⟩ prog_5_method_17_code 5 4 (some .int) D (tyF ca) (wF ad ca g) [.ref (ad 6), .int x1, .ref (ad 25), .int x3] q.1 (wF ad ca q.2) := by
  intro sz
  refine Met.fx (Qc := fun A => fxQi D (tyF ca) A (wF ad ca q.2) q.1) (by decide) (Nat.le_of_ble_eq_true rfl) ?_
  intro p e s m below meth c A ls X hP hD hl
  have hl : lv_has ls 5 [(0, .ref (ad 6)), (1, .int x1), (2, .ref (ad 25)), (3, .int x3)] := hl
  have hS : va_S A s.heap s.heap [] := va_S.rf
  have hx := X.1
  have hb := X.2.1
  unfold Fil_storeNode at h
  refine lv_aload_n hx hb d_Fil_storeNode_0 rfl (lv_at hl 0 rfl) ?_
  refine lv_aload_n hx hb d_Fil_storeNode_1 rfl (lv_at hl 2 rfl) ?_
  obtain ⟨v4, e1, h⟩ := bd_some h
  refine fx_i X (fx_runV (As := [.ref (ad 25)]) X (m_Fil_isEmpty_14 e1 _) hP hD kv_Fil_184 ⟨Nat.le_of_ble_eq_true rfl, Nat.le_of_ble_eq_true rfl⟩ 6 rfl rfl rfl hl.1 rfl (Nat.le_of_ble_eq_true rfl) d_Fil_storeNode_2) hD hS (fun H locs hP hD hS => ?_)
  refine lv_if_eq (tgt := 18) hx hb d_Fil_storeNode_5 (by decide) (fun hc => ?_) (fun hc => ?_)
  · have h := if_t hc h
    refine lv_iload_n hx hb d_Fil_storeNode_18 rfl (lv_at hl 1 rfl) ?_
    refine lv_if_ne (tgt := 32) hx hb d_Fil_storeNode_19 (by decide) (fun hc => ?_) (fun hc => ?_)
    · have h := if_f hc h
      refine lv_iload_n hx hb d_Fil_storeNode_32 rfl (lv_at hl 1 rfl) ?_
      exact v_Fil_storeNode_33_14 X  hP hD hS (lv_sub hl [0, 2, 3] rfl) h
    · have h := if_t hc h
      refine lv_aload_n hx hb d_Fil_storeNode_22 rfl (lv_at hl 0 rfl) ?_
      refine gF_fil_table X hP d_Fil_storeNode_23 ?_
      obtain ⟨p5, e1, h⟩ := bd_some h
      refine fx_i X (fx_runV (As := []) X (m_Tab_giveNumber e1 _) hP hD kv_Fil_188 ⟨Nat.le_of_ble_eq_true rfl, Nat.le_of_ble_eq_true rfl⟩ 4 rfl rfl rfl hl.1 rfl (Nat.le_of_ble_eq_true rfl) d_Fil_storeNode_26) hD hS (fun H locs hP hD hS => ?_)
      refine lv_goto (tgt := 33) hx hb d_Fil_storeNode_29 (by decide) ?_
      exact v_Fil_storeNode_33_14 X  hP hD hS (lv_sub hl [0, 2, 3] rfl) h
  · have h := if_f hc h
    refine lv_aload_n hx hb d_Fil_storeNode_8 rfl (lv_at hl 0 rfl) ?_
    refine gF_fil_log X hP d_Fil_storeNode_9 ?_
    refine lv_iload_n hx hb d_Fil_storeNode_12 rfl (lv_at hl 1 rfl) ?_
    obtain ⟨p6, e1, h⟩ := bd_some h
    refine fx_v X (fx_runV (As := [.int x1]) X (m_Log_dropNode e1 _) hP hD kv_Fil_137 ⟨Nat.le_of_ble_eq_true rfl, Nat.le_of_ble_eq_true rfl⟩ 5 rfl rfl rfl hl.1 rfl (Nat.le_of_ble_eq_true rfl) d_Fil_storeNode_13) hD hS (fun H locs hP hD hS => ?_)
    refine lv_iconst (v := 0) hx hb d_Fil_storeNode_16 (by decide) ?_
    cases h
    exact fx_iret X hP hD hS d_Fil_storeNode_17
theorem d_Fil_finish_0 : decode prog_5_method_14_code 0 = .ok (.aload_n 0, 1) := by decide +kernel
theorem d_Fil_finish_1 : decode prog_5_method_14_code 1 = .ok (.invokevirtual 161, 3) := by decide +kernel
theorem d_Fil_finish_4 : decode prog_5_method_14_code 4 = .ok (.aload_n 0, 1) := by decide +kernel
theorem d_Fil_finish_5 : decode prog_5_method_14_code 5 = .ok (.getfield 151, 3) := by decide +kernel
theorem d_Fil_finish_8 : decode prog_5_method_14_code 8 = .ok (.ifCond .eq 26, 3) := by decide +kernel
theorem d_Fil_finish_11 : decode prog_5_method_14_code 11 = .ok (.aload_n 0, 1) := by decide +kernel
theorem d_Fil_finish_12 : decode prog_5_method_14_code 12 = .ok (.getfield 23, 3) := by decide +kernel
theorem d_Fil_finish_15 : decode prog_5_method_14_code 15 = .ok (.bipush 28, 2) := by decide +kernel
theorem d_Fil_finish_17 : decode prog_5_method_14_code 17 = .ok (.aload_n 0, 1) := by decide +kernel
theorem d_Fil_finish_18 : decode prog_5_method_14_code 18 = .ok (.aload_n 0, 1) := by decide +kernel
theorem d_Fil_finish_19 : decode prog_5_method_14_code 19 = .ok (.getfield 23, 3) := by decide +kernel
theorem d_Fil_finish_22 : decode prog_5_method_14_code 22 = .ok (.bipush 28, 2) := by decide +kernel
theorem d_Fil_finish_24 : decode prog_5_method_14_code 24 = .ok (.iaload, 1) := by decide +kernel
theorem d_Fil_finish_25 : decode prog_5_method_14_code 25 = .ok (.aload_n 0, 1) := by decide +kernel
theorem d_Fil_finish_26 : decode prog_5_method_14_code 26 = .ok (.getfield 27, 3) := by decide +kernel
theorem d_Fil_finish_29 : decode prog_5_method_14_code 29 = .ok (.iconst 2, 1) := by decide +kernel
theorem d_Fil_finish_30 : decode prog_5_method_14_code 30 = .ok (.invokevirtual 173, 3) := by decide +kernel
theorem d_Fil_finish_33 : decode prog_5_method_14_code 33 = .ok (.iastore, 1) := by decide +kernel
theorem d_Fil_finish_34 : decode prog_5_method_14_code 34 = .ok (.aload_n 0, 1) := by decide +kernel
theorem d_Fil_finish_35 : decode prog_5_method_14_code 35 = .ok (.getfield 19, 3) := by decide +kernel
theorem d_Fil_finish_38 : decode prog_5_method_14_code 38 = .ok (.aload_n 0, 1) := by decide +kernel
theorem d_Fil_finish_39 : decode prog_5_method_14_code 39 = .ok (.getfield 140, 3) := by decide +kernel
theorem d_Fil_finish_42 : decode prog_5_method_14_code 42 = .ok (.aload_n 0, 1) := by decide +kernel
theorem d_Fil_finish_43 : decode prog_5_method_14_code 43 = .ok (.getfield 23, 3) := by decide +kernel
theorem d_Fil_finish_46 : decode prog_5_method_14_code 46 = .ok (.iload_n 1, 1) := by decide +kernel
theorem d_Fil_finish_47 : decode prog_5_method_14_code 47 = .ok (.invokevirtual 180, 3) := by decide +kernel
theorem d_Fil_finish_50 : decode prog_5_method_14_code 50 = .ok (.return_, 1) := by decide +kernel
set_option maxHeartbeats 4000000 in
set_option maxRecDepth 100000 in
theorem v_Fil_finish_34 {p : Program} {l : Launch} {e : Env} {s : State} {m : MethodId} {args : Array Value} {below : List Frame} {meth : Method} {c : Code} {D : va_G} {ad : Nat → Nat} {ca : Nat → ClassId} {A : Nat → Prop} {FU : Nat} {q : St} (X : FX p s m meth c prog_5_method_14_code 2 none "FlashFiles$Files" D (tyF ca) A) {y1 : Int32} {g : St} {H : Heap} {locs : List Loc} {ls : Array Slot} (hP : va_P D cls (wF ad ca g) H) (hD : va_D A (wF ad ca g)) (hS : va_S A s.heap H locs) (hl : lv_has ls 2 [(0, .ref (ad 6)), (1, .int y1)]) (h : Fil_finish_b34 FU y1 g = some q) : W p l e (rmN 6) s m args below meth c H locs 0 0 (MQ below (fxQv D (tyF ca) A (wF ad ca q)) args s 0 0 A) (F0 m 34 ls []) := by
  have hx := X.1
  have hb := X.2.1
  unfold Fil_finish_b34 at h
  refine lv_aload_n hx hb d_Fil_finish_34 rfl (lv_at hl 0 rfl) ?_
  refine gF_fil_log X hP d_Fil_finish_35 ?_
  refine lv_aload_n hx hb d_Fil_finish_38 rfl (lv_at hl 0 rfl) ?_
  refine gF_fil_id X hP d_Fil_finish_39 ?_
  refine lv_aload_n hx hb d_Fil_finish_42 rfl (lv_at hl 0 rfl) ?_
  refine gF_fil_inode X hP d_Fil_finish_43 ?_
  refine lv_iload_n hx hb d_Fil_finish_46 rfl (lv_at hl 1 rfl) ?_
  obtain ⟨p1, e1, h⟩ := bd_some h
  refine fx_v X (fx_runV (As := [.int (g.1 12), .ref (ad 24), .int y1]) X (m_Log_putNode_13 e1 _) hP hD kv_Fil_180 ⟨Nat.le_of_ble_eq_true rfl, Nat.le_of_ble_eq_true rfl⟩ 5 rfl rfl rfl hl.1 rfl (Nat.le_of_ble_eq_true rfl) d_Fil_finish_47) hD hS (fun H locs hP hD hS => ?_)
  cases h
  exact fx_vret X hP hD hS d_Fil_finish_50
set_option maxHeartbeats 4000000 in
set_option maxRecDepth 100000 in
theorem m_Fil_finish {l : Launch} {D : va_G} {ad : Nat → Nat} {ca : Nat → ClassId} {FU : Nat} {x1 : Int32} {g : St} {q : St} (h : Fil_finish FU x1 g = some q) : CV l ⟨"FlashFiles$Files", "finish", "(I)V"⟩ prog_5_method_14_code 2 6 D (tyF ca) (wF ad ca g) [.ref (ad 6), .int x1] (wF ad ca q) := by
  intro sz
  refine Met.fx (Qc := fun A => fxQv D (tyF ca) A (wF ad ca q)) (by decide) (Nat.le_of_ble_eq_true rfl) ?_
  intro p e s m below meth c A ls X hP hD hl
  have hl : lv_has ls 2 [(0, .ref (ad 6)), (1, .int x1)] := hl
  have hS : va_S A s.heap s.heap [] := va_S.rf
  have hx := X.1
  have hb := X.2.1
  unfold Fil_finish at h
  refine lv_aload_n hx hb d_Fil_finish_0 rfl (lv_at hl 0 rfl) ?_
  obtain ⟨p2, e1, h⟩ := bd_some h
  refine fx_v X (fx_runV (As := []) X (m_Fil_closeNode e1 _) hP hD kv_Fil_161 ⟨Nat.le_of_ble_eq_true rfl, Nat.le_of_ble_eq_true rfl⟩ 6 rfl rfl rfl hl.1 rfl (Nat.le_of_ble_eq_true rfl) d_Fil_finish_1) hD hS (fun H locs hP hD hS => ?_)
  refine lv_aload_n hx hb d_Fil_finish_4 rfl (lv_at hl 0 rfl) ?_
  refine gF_fil_indirectChanged X hP d_Fil_finish_5 ?_
  refine lv_if_eq (tgt := 34) hx hb d_Fil_finish_8 (by decide) (fun hc => ?_) (fun hc => ?_)
  · have h := if_t hc h
    exact v_Fil_finish_34 X  hP hD hS (lv_sub hl [0, 1] rfl) h
  · have h := if_f hc h
    refine lv_aload_n hx hb d_Fil_finish_11 rfl (lv_at hl 0 rfl) ?_
    refine gF_fil_inode X hP d_Fil_finish_12 ?_
    refine lv_bipush (v := 28) hx hb d_Fil_finish_15 (by decide) ?_
    refine lv_aload_n hx hb d_Fil_finish_17 rfl (lv_at hl 0 rfl) ?_
    refine lv_aload_n hx hb d_Fil_finish_18 rfl (lv_at hl 0 rfl) ?_
    refine gF_fil_inode X hP d_Fil_finish_19 ?_
    refine lv_bipush (v := 28) hx hb d_Fil_finish_22 (by decide) ?_
    obtain ⟨v3, e1, h⟩ := bd_some h
    refine rF_13 X hP e1 d_Fil_finish_24 ?_
    refine lv_aload_n hx hb d_Fil_finish_25 rfl (lv_at hl 0 rfl) ?_
    refine gF_fil_indirect X hP d_Fil_finish_26 ?_
    refine lv_iconst (v := 2) hx hb d_Fil_finish_29 (by decide) ?_
    obtain ⟨p4, e1, h⟩ := bd_some h
    refine fx_i X (fx_runV (As := [.int v3, .ref (ad 25), .int (2 : Int32)]) X (m_Fil_storeNode_14 e1 _) hP hD kv_Fil_173 ⟨Nat.le_of_ble_eq_true rfl, Nat.le_of_ble_eq_true rfl⟩ 6 rfl rfl rfl hl.1 rfl (Nat.le_of_ble_eq_true rfl) d_Fil_finish_30) hD hS (fun H locs hP hD hS => ?_)
    obtain ⟨g5, e1, h⟩ := bd_some h
    refine sF_13 X hP hD hS e1 d_Fil_finish_33 (fun H locs hP hD hS => ?_)
    exact v_Fil_finish_34 X  hP hD hS (lv_sub hl [0, 1] rfl) h
theorem d_Fil_leaveSmall_0 : decode prog_5_method_19_code 0 = .ok (.aload_n 0, 1) := by decide +kernel
theorem d_Fil_leaveSmall_1 : decode prog_5_method_19_code 1 = .ok (.getfield 33, 3) := by decide +kernel
theorem d_Fil_leaveSmall_4 : decode prog_5_method_19_code 4 = .ok (.iconst 0, 1) := by decide +kernel
theorem d_Fil_leaveSmall_5 : decode prog_5_method_19_code 5 = .ok (.invokestatic 167, 3) := by decide +kernel
theorem d_Fil_leaveSmall_8 : decode prog_5_method_19_code 8 = .ok (.aload_n 0, 1) := by decide +kernel
theorem d_Fil_leaveSmall_9 : decode prog_5_method_19_code 9 = .ok (.getfield 23, 3) := by decide +kernel
theorem d_Fil_leaveSmall_12 : decode prog_5_method_19_code 12 = .ok (.bipush 30, 2) := by decide +kernel
theorem d_Fil_leaveSmall_14 : decode prog_5_method_19_code 14 = .ok (.aload_n 0, 1) := by decide +kernel
theorem d_Fil_leaveSmall_15 : decode prog_5_method_19_code 15 = .ok (.getfield 33, 3) := by decide +kernel
theorem d_Fil_leaveSmall_18 : decode prog_5_method_19_code 18 = .ok (.iconst 0, 1) := by decide +kernel
theorem d_Fil_leaveSmall_19 : decode prog_5_method_19_code 19 = .ok (.bipush 24, 2) := by decide +kernel
theorem d_Fil_leaveSmall_21 : decode prog_5_method_19_code 21 = .ok (.invokestatic 191, 3) := by decide +kernel
theorem d_Fil_leaveSmall_24 : decode prog_5_method_19_code 24 = .ok (.aload_n 0, 1) := by decide +kernel
theorem d_Fil_leaveSmall_25 : decode prog_5_method_19_code 25 = .ok (.aload_n 0, 1) := by decide +kernel
theorem d_Fil_leaveSmall_26 : decode prog_5_method_19_code 26 = .ok (.getfield 23, 3) := by decide +kernel
theorem d_Fil_leaveSmall_29 : decode prog_5_method_19_code 29 = .ok (.bipush 30, 2) := by decide +kernel
theorem d_Fil_leaveSmall_31 : decode prog_5_method_19_code 31 = .ok (.iconst 0, 1) := by decide +kernel
theorem d_Fil_leaveSmall_32 : decode prog_5_method_19_code 32 = .ok (.bipush 96, 2) := by decide +kernel
theorem d_Fil_leaveSmall_34 : decode prog_5_method_19_code 34 = .ok (.invokevirtual 102, 3) := by decide +kernel
theorem d_Fil_leaveSmall_37 : decode prog_5_method_19_code 37 = .ok (.aload_n 0, 1) := by decide +kernel
theorem d_Fil_leaveSmall_38 : decode prog_5_method_19_code 38 = .ok (.getfield 23, 3) := by decide +kernel
theorem d_Fil_leaveSmall_41 : decode prog_5_method_19_code 41 = .ok (.bipush 6, 2) := by decide +kernel
theorem d_Fil_leaveSmall_43 : decode prog_5_method_19_code 43 = .ok (.aload_n 0, 1) := by decide +kernel
theorem d_Fil_leaveSmall_44 : decode prog_5_method_19_code 44 = .ok (.getfield 19, 3) := by decide +kernel
theorem d_Fil_leaveSmall_47 : decode prog_5_method_19_code 47 = .ok (.aload_n 0, 1) := by decide +kernel
theorem d_Fil_leaveSmall_48 : decode prog_5_method_19_code 48 = .ok (.getfield 33, 3) := by decide +kernel
theorem d_Fil_leaveSmall_51 : decode prog_5_method_19_code 51 = .ok (.invokevirtual 60, 3) := by decide +kernel
theorem d_Fil_leaveSmall_54 : decode prog_5_method_19_code 54 = .ok (.iastore, 1) := by decide +kernel
theorem d_Fil_leaveSmall_55 : decode prog_5_method_19_code 55 = .ok (.aload_n 0, 1) := by decide +kernel
theorem d_Fil_leaveSmall_56 : decode prog_5_method_19_code 56 = .ok (.getfield 23, 3) := by decide +kernel
theorem d_Fil_leaveSmall_59 : decode prog_5_method_19_code 59 = .ok (.iconst 3, 1) := by decide +kernel
theorem d_Fil_leaveSmall_60 : decode prog_5_method_19_code 60 = .ok (.iconst 0, 1) := by decide +kernel
theorem d_Fil_leaveSmall_61 : decode prog_5_method_19_code 61 = .ok (.iastore, 1) := by decide +kernel
theorem d_Fil_leaveSmall_62 : decode prog_5_method_19_code 62 = .ok (.aload_n 0, 1) := by decide +kernel
theorem d_Fil_leaveSmall_63 : decode prog_5_method_19_code 63 = .ok (.getfield 23, 3) := by decide +kernel
theorem d_Fil_leaveSmall_66 : decode prog_5_method_19_code 66 = .ok (.iconst 4, 1) := by decide +kernel
theorem d_Fil_leaveSmall_67 : decode prog_5_method_19_code 67 = .ok (.iconst 1, 1) := by decide +kernel
theorem d_Fil_leaveSmall_68 : decode prog_5_method_19_code 68 = .ok (.iastore, 1) := by decide +kernel
theorem d_Fil_leaveSmall_69 : decode prog_5_method_19_code 69 = .ok (.return_, 1) := by decide +kernel
set_option maxHeartbeats 4000000 in
set_option maxRecDepth 100000 in
theorem m_Fil_leaveSmall {l : Launch} {D : va_G} {ad : Nat → Nat} {ca : Nat → ClassId} {FU : Nat} {g : St} {q : St} (h : Fil_leaveSmall FU  g = some q) : CV l ⟨"FlashFiles$Files", "leaveSmall", "()V"⟩ prog_5_method_19_code 1 4 D (tyF ca) (wF ad ca g) [.ref (ad 6)] (wF ad ca q) := by
  intro sz
  refine Met.fx (Qc := fun A => fxQv D (tyF ca) A (wF ad ca q)) (by decide) (Nat.le_of_ble_eq_true rfl) ?_
  intro p e s m below meth c A ls X hP hD hl
  have hl : lv_has ls 1 [(0, .ref (ad 6))] := hl
  have hS : va_S A s.heap s.heap [] := va_S.rf
  have hx := X.1
  have hb := X.2.1
  unfold Fil_leaveSmall at h
  refine lv_aload_n hx hb d_Fil_leaveSmall_0 rfl (lv_at hl 0 rfl) ?_
  refine gF_fil_block X hP d_Fil_leaveSmall_1 ?_
  refine lv_iconst (v := 0) hx hb d_Fil_leaveSmall_4 (by decide) ?_
  obtain ⟨p1, e1, h⟩ := bd_some h
  refine fx_v X (fx_runS X (m_Arr_fill_0_16 e1 _) (As := [.ref (ad 27), .int (0 : Int32)]) hP hD ks_Fil_167 ⟨Nat.le_of_ble_eq_true rfl, Nat.le_of_ble_eq_true rfl⟩ rfl hl.1 rfl (Nat.le_of_ble_eq_true rfl) d_Fil_leaveSmall_5) hD hS (fun H locs hP hD hS => ?_)
  refine lv_aload_n hx hb d_Fil_leaveSmall_8 rfl (lv_at hl 0 rfl) ?_
  refine gF_fil_inode X hP d_Fil_leaveSmall_9 ?_
  refine lv_bipush (v := 30) hx hb d_Fil_leaveSmall_12 (by decide) ?_
  refine lv_aload_n hx hb d_Fil_leaveSmall_14 rfl (lv_at hl 0 rfl) ?_
  refine gF_fil_block X hP d_Fil_leaveSmall_15 ?_
  refine lv_iconst (v := 0) hx hb d_Fil_leaveSmall_18 (by decide) ?_
  refine lv_bipush (v := 24) hx hb d_Fil_leaveSmall_19 (by decide) ?_
  obtain ⟨g2, e1, h⟩ := bd_some h
  refine cpF_13_16 X hP hD hS hl.1.symm (X.2.2.2.2.2.2.1.use q6_23) e1 ⟨Nat.le_of_ble_eq_true rfl, Nat.le_of_ble_eq_true rfl⟩ d_Fil_leaveSmall_21 (fun H locs hP hD hS => ?_)
  refine lv_aload_n hx hb d_Fil_leaveSmall_24 rfl (lv_at hl 0 rfl) ?_
  refine lv_aload_n hx hb d_Fil_leaveSmall_25 rfl (lv_at hl 0 rfl) ?_
  refine gF_fil_inode X hP d_Fil_leaveSmall_26 ?_
  refine lv_bipush (v := 30) hx hb d_Fil_leaveSmall_29 (by decide) ?_
  refine lv_iconst (v := 0) hx hb d_Fil_leaveSmall_31 (by decide) ?_
  refine lv_bipush (v := 96) hx hb d_Fil_leaveSmall_32 (by decide) ?_
  obtain ⟨p3, e1, h⟩ := bd_some h
  refine fx_v X (fx_runV (As := [.ref (ad 24), .int (30 : Int32), .int (0 : Int32), .int (96 : Int32)]) X (m_Fil_clearFrom_13 e1 _) hP hD kv_Fil_102 ⟨Nat.le_of_ble_eq_true rfl, Nat.le_of_ble_eq_true rfl⟩ 6 rfl rfl rfl hl.1 rfl (Nat.le_of_ble_eq_true rfl) d_Fil_leaveSmall_34) hD hS (fun H locs hP hD hS => ?_)
  refine lv_aload_n hx hb d_Fil_leaveSmall_37 rfl (lv_at hl 0 rfl) ?_
  refine gF_fil_inode X hP d_Fil_leaveSmall_38 ?_
  refine lv_bipush (v := 6) hx hb d_Fil_leaveSmall_41 (by decide) ?_
  refine lv_aload_n hx hb d_Fil_leaveSmall_43 rfl (lv_at hl 0 rfl) ?_
  refine gF_fil_log X hP d_Fil_leaveSmall_44 ?_
  refine lv_aload_n hx hb d_Fil_leaveSmall_47 rfl (lv_at hl 0 rfl) ?_
  refine gF_fil_block X hP d_Fil_leaveSmall_48 ?_
  obtain ⟨p4, e1, h⟩ := bd_some h
  refine fx_i X (fx_runV (As := [.ref (ad 27)]) X (m_Log_putData_16 e1 _) hP hD kv_Fil_60 ⟨Nat.le_of_ble_eq_true rfl, Nat.le_of_ble_eq_true rfl⟩ 5 rfl rfl rfl hl.1 rfl (Nat.le_of_ble_eq_true rfl) d_Fil_leaveSmall_51) hD hS (fun H locs hP hD hS => ?_)
  obtain ⟨g5, e1, h⟩ := bd_some h
  refine sF_13 X hP hD hS e1 d_Fil_leaveSmall_54 (fun H locs hP hD hS => ?_)
  refine lv_aload_n hx hb d_Fil_leaveSmall_55 rfl (lv_at hl 0 rfl) ?_
  refine gF_fil_inode X hP d_Fil_leaveSmall_56 ?_
  refine lv_iconst (v := 3) hx hb d_Fil_leaveSmall_59 (by decide) ?_
  refine lv_iconst (v := 0) hx hb d_Fil_leaveSmall_60 (by decide) ?_
  obtain ⟨g6, e1, h⟩ := bd_some h
  refine sF_13 X hP hD hS e1 d_Fil_leaveSmall_61 (fun H locs hP hD hS => ?_)
  refine lv_aload_n hx hb d_Fil_leaveSmall_62 rfl (lv_at hl 0 rfl) ?_
  refine gF_fil_inode X hP d_Fil_leaveSmall_63 ?_
  refine lv_iconst (v := 4) hx hb d_Fil_leaveSmall_66 (by decide) ?_
  refine lv_iconst (v := 1) hx hb d_Fil_leaveSmall_67 (by decide) ?_
  obtain ⟨g7, e1, h⟩ := bd_some h
  refine sF_13 X hP hD hS e1 d_Fil_leaveSmall_68 (fun H locs hP hD hS => ?_)
  cases h
  exact fx_vret X hP hD hS d_Fil_leaveSmall_69
set_option maxHeartbeats 4000000 in
set_option maxRecDepth 100000 in
theorem m_Fil_loadNode_15 {l : Launch} {D : va_G} {ad : Nat → Nat} {ca : Nat → ClassId} {FU : Nat} {x1 : Int32} {g : St} {q : St} (h : Fil_loadNode FU 15 x1 g = some q) : CV l ⟨"FlashFiles$Files", "loadNode", "(I[I)V"⟩ prog_5_method_12_code 3 2 D (tyF ca) (wF ad ca g) [.ref (ad 6), .int x1, .ref (ad 26)] (wF ad ca q) := by
  intro sz
  refine Met.fx (Qc := fun A => fxQv D (tyF ca) A (wF ad ca q)) (by decide) (Nat.le_of_ble_eq_true rfl) ?_
  intro p e s m below meth c A ls X hP hD hl
  have hl : lv_has ls 3 [(0, .ref (ad 6)), (1, .int x1), (2, .ref (ad 26))] := hl
  have hS : va_S A s.heap s.heap [] := va_S.rf
  have hx := X.1
  have hb := X.2.1
  unfold Fil_loadNode at h
  refine lv_iload_n hx hb d_Fil_loadNode_0 rfl (lv_at hl 1 rfl) ?_
  refine lv_if_ne (tgt := 12) hx hb d_Fil_loadNode_1 (by decide) (fun hc => ?_) (fun hc => ?_)
  · have h := if_f hc h
    refine lv_aload_n hx hb d_Fil_loadNode_12 rfl (lv_at hl 0 rfl) ?_
    refine gF_fil_device X hP d_Fil_loadNode_13 ?_
    refine lv_aload_n hx hb d_Fil_loadNode_16 rfl (lv_at hl 0 rfl) ?_
    refine gF_fil_table X hP d_Fil_loadNode_17 ?_
    refine lv_iload_n hx hb d_Fil_loadNode_20 rfl (lv_at hl 1 rfl) ?_
    obtain ⟨v1, e1, h⟩ := bd_some h
    refine fx_i X (fx_runV (As := [.int x1]) X (m_Tab_placeOf e1 _) hP hD kv_Fil_114 ⟨Nat.le_of_ble_eq_true rfl, Nat.le_of_ble_eq_true rfl⟩ 4 rfl rfl rfl hl.1 rfl (Nat.le_of_ble_eq_true rfl) d_Fil_loadNode_21) hD hS (fun H locs hP hD hS => ?_)
    refine lv_aload_n hx hb d_Fil_loadNode_24 rfl (lv_at hl 2 rfl) ?_
    obtain ⟨p2, e1, h⟩ := bd_some h
    refine fx_v X (fx_runV (As := [.int v1, .ref (ad 26)]) X (m_Dev_load_15 e1 _) hP hD kv_Fil_154 ⟨Nat.le_of_ble_eq_true rfl, Nat.le_of_ble_eq_true rfl⟩ 3 rfl rfl rfl hl.1 rfl (Nat.le_of_ble_eq_true rfl) d_Fil_loadNode_25) hD hS (fun H locs hP hD hS => ?_)
    cases h
    exact fx_vret X hP hD hS d_Fil_loadNode_28
  · have h := if_t hc h
    refine lv_aload_n hx hb d_Fil_loadNode_4 rfl (lv_at hl 2 rfl) ?_
    refine lv_iconst (v := 0) hx hb d_Fil_loadNode_5 (by decide) ?_
    obtain ⟨p3, e1, h⟩ := bd_some h
    refine fx_v X (fx_runS X (m_Arr_fill_0_15 e1 _) (As := [.ref (ad 26), .int (0 : Int32)]) hP hD ks_Fil_167 ⟨Nat.le_of_ble_eq_true rfl, Nat.le_of_ble_eq_true rfl⟩ rfl hl.1 rfl (Nat.le_of_ble_eq_true rfl) d_Fil_loadNode_6) hD hS (fun H locs hP hD hS => ?_)
    refine lv_goto (tgt := 28) hx hb d_Fil_loadNode_9 (by decide) ?_
    cases h
    exact fx_vret X hP hD hS d_Fil_loadNode_28
theorem d_Fil_turnTo_0 : decode prog_5_method_9_code 0 = .ok (.iload_n 1, 1) := by decide +kernel
theorem d_Fil_turnTo_1 : decode prog_5_method_9_code 1 = .ok (.bipush 20, 2) := by decide +kernel
theorem d_Fil_turnTo_3 : decode prog_5_method_9_code 3 = .ok (.if_icmp .ge 7, 3) := by decide +kernel
theorem d_Fil_turnTo_6 : decode prog_5_method_9_code 6 = .ok (.iconst 0, 1) := by decide +kernel
theorem d_Fil_turnTo_7 : decode prog_5_method_9_code 7 = .ok (.goto 12, 3) := by decide +kernel
theorem d_Fil_turnTo_10 : decode prog_5_method_9_code 10 = .ok (.iconst 1, 1) := by decide +kernel
theorem d_Fil_turnTo_11 : decode prog_5_method_9_code 11 = .ok (.iload_n 1, 1) := by decide +kernel
theorem d_Fil_turnTo_12 : decode prog_5_method_9_code 12 = .ok (.bipush 20, 2) := by decide +kernel
theorem d_Fil_turnTo_14 : decode prog_5_method_9_code 14 = .ok (.isub, 1) := by decide +kernel
theorem d_Fil_turnTo_15 : decode prog_5_method_9_code 15 = .ok (.bipush 56, 2) := by decide +kernel
theorem d_Fil_turnTo_17 : decode prog_5_method_9_code 17 = .ok (.idiv, 1) := by decide +kernel
theorem d_Fil_turnTo_18 : decode prog_5_method_9_code 18 = .ok (.iadd, 1) := by decide +kernel
theorem d_Fil_turnTo_19 : decode prog_5_method_9_code 19 = .ok (.istore_n 2, 1) := by decide +kernel
theorem d_Fil_turnTo_20 : decode prog_5_method_9_code 20 = .ok (.iload_n 2, 1) := by decide +kernel
theorem d_Fil_turnTo_21 : decode prog_5_method_9_code 21 = .ok (.ifCond .eq 11, 3) := by decide +kernel
theorem d_Fil_turnTo_24 : decode prog_5_method_9_code 24 = .ok (.iload_n 2, 1) := by decide +kernel
theorem d_Fil_turnTo_25 : decode prog_5_method_9_code 25 = .ok (.aload_n 0, 1) := by decide +kernel
theorem d_Fil_turnTo_26 : decode prog_5_method_9_code 26 = .ok (.getfield 144, 3) := by decide +kernel
theorem d_Fil_turnTo_29 : decode prog_5_method_9_code 29 = .ok (.if_icmp .ne 4, 3) := by decide +kernel
theorem d_Fil_turnTo_32 : decode prog_5_method_9_code 32 = .ok (.return_, 1) := by decide +kernel
theorem d_Fil_turnTo_33 : decode prog_5_method_9_code 33 = .ok (.aload_n 0, 1) := by decide +kernel
theorem d_Fil_turnTo_34 : decode prog_5_method_9_code 34 = .ok (.invokevirtual 161, 3) := by decide +kernel
theorem d_Fil_turnTo_37 : decode prog_5_method_9_code 37 = .ok (.aload_n 0, 1) := by decide +kernel
theorem d_Fil_turnTo_38 : decode prog_5_method_9_code 38 = .ok (.iload_n 2, 1) := by decide +kernel
theorem d_Fil_turnTo_39 : decode prog_5_method_9_code 39 = .ok (.putfield 144, 3) := by decide +kernel
theorem d_Fil_turnTo_42 : decode prog_5_method_9_code 42 = .ok (.aload_n 0, 1) := by decide +kernel
theorem d_Fil_turnTo_43 : decode prog_5_method_9_code 43 = .ok (.aload_n 0, 1) := by decide +kernel
theorem d_Fil_turnTo_44 : decode prog_5_method_9_code 44 = .ok (.iload_n 2, 1) := by decide +kernel
theorem d_Fil_turnTo_45 : decode prog_5_method_9_code 45 = .ok (.invokevirtual 164, 3) := by decide +kernel
theorem d_Fil_turnTo_48 : decode prog_5_method_9_code 48 = .ok (.aload_n 0, 1) := by decide +kernel
theorem d_Fil_turnTo_49 : decode prog_5_method_9_code 49 = .ok (.getfield 30, 3) := by decide +kernel
theorem d_Fil_turnTo_52 : decode prog_5_method_9_code 52 = .ok (.invokevirtual 158, 3) := by decide +kernel
theorem d_Fil_turnTo_55 : decode prog_5_method_9_code 55 = .ok (.return_, 1) := by decide +kernel
set_option maxHeartbeats 4000000 in
set_option maxRecDepth 100000 in
theorem v_Fil_turnTo_19 {p : Program} {l : Launch} {e : Env} {s : State} {m : MethodId} {args : Array Value} {below : List Frame} {meth : Method} {c : Code} {D : va_G} {ad : Nat → Nat} {ca : Nat → ClassId} {A : Nat → Prop} {FU : Nat} {q : St} (X : FX p s m meth c prog_5_method_9_code 3 none "FlashFiles$Files" D (tyF ca) A) {z0 : Int32} {g : St} {H : Heap} {locs : List Loc} {ls : Array Slot} (hP : va_P D cls (wF ad ca g) H) (hD : va_D A (wF ad ca g)) (hS : va_S A s.heap H locs) (hl : lv_has ls 3 [(0, .ref (ad 6))]) (h : Fil_turnTo_b19 FU z0 g = some q) : W p l e (rmN 6) s m args below meth c H locs 0 0 (MQ below (fxQv D (tyF ca) A (wF ad ca q)) args s 0 0 A) (F0 m 19 ls [.int z0]) := by
  have hx := X.1
  have hb := X.2.1
  unfold Fil_turnTo_b19 at h
  refine lv_istore_n hx hb d_Fil_turnTo_19 rfl hl (by decide) rfl (fun ls hl => ?_)
  have hl : lv_has ls 3 [(2, .int z0), (0, .ref (ad 6))] := hl
  refine lv_iload_n hx hb d_Fil_turnTo_20 rfl (lv_at hl 0 rfl) ?_
  refine lv_if_eq (tgt := 32) hx hb d_Fil_turnTo_21 (by decide) (fun hc => ?_) (fun hc => ?_)
  · have h := if_t hc h
    cases h
    exact fx_vret X hP hD hS d_Fil_turnTo_32
  · have h := if_f hc h
    refine lv_iload_n hx hb d_Fil_turnTo_24 rfl (lv_at hl 0 rfl) ?_
    refine lv_aload_n hx hb d_Fil_turnTo_25 rfl (lv_at hl 1 rfl) ?_
    refine gF_fil_opened X hP d_Fil_turnTo_26 ?_
    refine lv_icmp_ne (tgt := 33) hx hb d_Fil_turnTo_29 (by decide) (fun hc => ?_) (fun hc => ?_)
    · have h := if_f hc h
      refine lv_aload_n hx hb d_Fil_turnTo_33 rfl (lv_at hl 1 rfl) ?_
      obtain ⟨p1, e1, h⟩ := bd_some h
      refine fx_v X (fx_runV (As := []) X (m_Fil_closeNode e1 _) hP hD kv_Fil_161 ⟨Nat.le_of_ble_eq_true rfl, Nat.le_of_ble_eq_true rfl⟩ 6 rfl rfl rfl hl.1 rfl (Nat.le_of_ble_eq_true rfl) d_Fil_turnTo_34) hD hS (fun H locs hP hD hS => ?_)
      refine lv_aload_n hx hb d_Fil_turnTo_37 rfl (lv_at hl 1 rfl) ?_
      refine lv_iload_n hx hb d_Fil_turnTo_38 rfl (lv_at hl 0 rfl) ?_
      obtain ⟨g2, e1, h⟩ := nx_some h
      refine uF_fil_opened X hP hD hS e1 d_Fil_turnTo_39 (fun H locs hP hD hS => ?_)
      refine lv_aload_n hx hb d_Fil_turnTo_42 rfl (lv_at hl 1 rfl) ?_
      refine lv_aload_n hx hb d_Fil_turnTo_43 rfl (lv_at hl 1 rfl) ?_
      refine lv_iload_n hx hb d_Fil_turnTo_44 rfl (lv_at hl 0 rfl) ?_
      obtain ⟨v3, e1, h⟩ := bd_some h
      refine fx_i X (fx_runV (As := [.int z0]) X (m_Fil_numberOf e1 _) hP hD kv_Fil_164 ⟨Nat.le_of_ble_eq_true rfl, Nat.le_of_ble_eq_true rfl⟩ 6 rfl rfl rfl hl.1 rfl (Nat.le_of_ble_eq_true rfl) d_Fil_turnTo_45) hD hS (fun H locs hP hD hS => ?_)
      refine lv_aload_n hx hb d_Fil_turnTo_48 rfl (lv_at hl 1 rfl) ?_
      refine gF_fil_direct X hP d_Fil_turnTo_49 ?_
      obtain ⟨p4, e1, h⟩ := bd_some h
      refine fx_v X (fx_runV (As := [.int v3, .ref (ad 26)]) X (m_Fil_loadNode_15 e1 _) hP hD kv_Fil_158 ⟨Nat.le_of_ble_eq_true rfl, Nat.le_of_ble_eq_true rfl⟩ 6 rfl rfl rfl hl.1 rfl (Nat.le_of_ble_eq_true rfl) d_Fil_turnTo_52) hD hS (fun H locs hP hD hS => ?_)
      cases h
      exact fx_vret X hP hD hS d_Fil_turnTo_55
    · have h := if_t hc h
      cases h
      exact fx_vret X hP hD hS d_Fil_turnTo_32
set_option maxHeartbeats 4000000 in
set_option maxRecDepth 100000 in
theorem m_Fil_turnTo {l : Launch} {D : va_G} {ad : Nat → Nat} {ca : Nat → ClassId} {FU : Nat} {x1 : Int32} {g : St} {q : St} (h : Fil_turnTo FU x1 g = some q) : CV l ⟨"FlashFiles$Files", "turnTo", "(I)V"⟩ prog_5_method_9_code 3 6 D (tyF ca) (wF ad ca g) [.ref (ad 6), .int x1] (wF ad ca q) := by
  intro sz
  refine Met.fx (Qc := fun A => fxQv D (tyF ca) A (wF ad ca q)) (by decide) (Nat.le_of_ble_eq_true rfl) ?_
  intro p e s m below meth c A ls X hP hD hl
  have hl : lv_has ls 3 [(0, .ref (ad 6)), (1, .int x1)] := hl
  have hS : va_S A s.heap s.heap [] := va_S.rf
  have hx := X.1
  have hb := X.2.1
  unfold Fil_turnTo at h
  refine lv_iload_n hx hb d_Fil_turnTo_0 rfl (lv_at hl 1 rfl) ?_
  refine lv_bipush (v := 20) hx hb d_Fil_turnTo_1 (by decide) ?_
  refine lv_icmp_ge (tgt := 10) hx hb d_Fil_turnTo_3 (by decide) (fun hc => ?_) (fun hc => ?_)
  · have h := if_t hc h
    refine lv_iconst (v := 1) hx hb d_Fil_turnTo_10 (by decide) ?_
    refine lv_iload_n hx hb d_Fil_turnTo_11 rfl (lv_at hl 1 rfl) ?_
    refine lv_bipush (v := 20) hx hb d_Fil_turnTo_12 (by decide) ?_
    refine lv_isub hx hb d_Fil_turnTo_14 ?_
    refine lv_bipush (v := 56) hx hb d_Fil_turnTo_15 (by decide) ?_
    refine lv_idiv hx hb d_Fil_turnTo_17 (by decide) ?_
    refine lv_iadd hx hb d_Fil_turnTo_18 ?_
    exact v_Fil_turnTo_19 X  hP hD hS (lv_sub hl [0] rfl) h
  · have h := if_f hc h
    refine lv_iconst (v := 0) hx hb d_Fil_turnTo_6 (by decide) ?_
    refine lv_goto (tgt := 19) hx hb d_Fil_turnTo_7 (by decide) ?_
    exact v_Fil_turnTo_19 X  hP hD hS (lv_sub hl [0] rfl) h
theorem d_Fil_resize_0 : decode prog_5_method_4_code 0 = .ok (.aload_n 0, 1) := by decide +kernel
theorem d_Fil_resize_1 : decode prog_5_method_4_code 1 = .ok (.iload_n 1, 1) := by decide +kernel
theorem d_Fil_resize_2 : decode prog_5_method_4_code 2 = .ok (.invokevirtual 36, 3) := by decide +kernel
theorem d_Fil_resize_5 : decode prog_5_method_4_code 5 = .ok (.aload_n 0, 1) := by decide +kernel
theorem d_Fil_resize_6 : decode prog_5_method_4_code 6 = .ok (.getfield 23, 3) := by decide +kernel
theorem d_Fil_resize_9 : decode prog_5_method_4_code 9 = .ok (.iconst 3, 1) := by decide +kernel
theorem d_Fil_resize_10 : decode prog_5_method_4_code 10 = .ok (.iaload, 1) := by decide +kernel
theorem d_Fil_resize_11 : decode prog_5_method_4_code 11 = .ok (.iconst 1, 1) := by decide +kernel
theorem d_Fil_resize_12 : decode prog_5_method_4_code 12 = .ok (.if_icmp .ne 32, 3) := by decide +kernel
theorem d_Fil_resize_15 : decode prog_5_method_4_code 15 = .ok (.iload_n 2, 1) := by decide +kernel
theorem d_Fil_resize_16 : decode prog_5_method_4_code 16 = .ok (.bipush 96, 2) := by decide +kernel
theorem d_Fil_resize_18 : decode prog_5_method_4_code 18 = .ok (.if_icmp .le 10, 3) := by decide +kernel
theorem d_Fil_resize_21 : decode prog_5_method_4_code 21 = .ok (.aload_n 0, 1) := by decide +kernel
theorem d_Fil_resize_22 : decode prog_5_method_4_code 22 = .ok (.invokevirtual 50, 3) := by decide +kernel
theorem d_Fil_resize_25 : decode prog_5_method_4_code 25 = .ok (.goto 98, 3) := by decide +kernel
theorem d_Fil_resize_28 : decode prog_5_method_4_code 28 = .ok (.aload_n 0, 1) := by decide +kernel
theorem d_Fil_resize_29 : decode prog_5_method_4_code 29 = .ok (.aload_n 0, 1) := by decide +kernel
theorem d_Fil_resize_30 : decode prog_5_method_4_code 30 = .ok (.getfield 23, 3) := by decide +kernel
theorem d_Fil_resize_33 : decode prog_5_method_4_code 33 = .ok (.bipush 30, 2) := by decide +kernel
theorem d_Fil_resize_35 : decode prog_5_method_4_code 35 = .ok (.iload_n 2, 1) := by decide +kernel
theorem d_Fil_resize_36 : decode prog_5_method_4_code 36 = .ok (.bipush 96, 2) := by decide +kernel
theorem d_Fil_resize_38 : decode prog_5_method_4_code 38 = .ok (.invokevirtual 102, 3) := by decide +kernel
theorem d_Fil_resize_41 : decode prog_5_method_4_code 41 = .ok (.goto 82, 3) := by decide +kernel
theorem d_Fil_resize_44 : decode prog_5_method_4_code 44 = .ok (.iload_n 2, 1) := by decide +kernel
theorem d_Fil_resize_45 : decode prog_5_method_4_code 45 = .ok (.aload_n 0, 1) := by decide +kernel
theorem d_Fil_resize_46 : decode prog_5_method_4_code 46 = .ok (.getfield 23, 3) := by decide +kernel
theorem d_Fil_resize_49 : decode prog_5_method_4_code 49 = .ok (.iconst 1, 1) := by decide +kernel
theorem d_Fil_resize_50 : decode prog_5_method_4_code 50 = .ok (.iaload, 1) := by decide +kernel
theorem d_Fil_resize_51 : decode prog_5_method_4_code 51 = .ok (.if_icmp .ge 72, 3) := by decide +kernel
theorem d_Fil_resize_54 : decode prog_5_method_4_code 54 = .ok (.aload_n 0, 1) := by decide +kernel
theorem d_Fil_resize_55 : decode prog_5_method_4_code 55 = .ok (.iload_n 2, 1) := by decide +kernel
theorem d_Fil_resize_56 : decode prog_5_method_4_code 56 = .ok (.sipush 256, 3) := by decide +kernel
theorem d_Fil_resize_59 : decode prog_5_method_4_code 59 = .ok (.idiv, 1) := by decide +kernel
theorem d_Fil_resize_60 : decode prog_5_method_4_code 60 = .ok (.invokevirtual 53, 3) := by decide +kernel
theorem d_Fil_resize_63 : decode prog_5_method_4_code 63 = .ok (.aload_n 0, 1) := by decide +kernel
theorem d_Fil_resize_64 : decode prog_5_method_4_code 64 = .ok (.iload_n 2, 1) := by decide +kernel
theorem d_Fil_resize_65 : decode prog_5_method_4_code 65 = .ok (.invokevirtual 105, 3) := by decide +kernel
theorem d_Fil_resize_68 : decode prog_5_method_4_code 68 = .ok (.aload_n 0, 1) := by decide +kernel
theorem d_Fil_resize_69 : decode prog_5_method_4_code 69 = .ok (.getfield 23, 3) := by decide +kernel
theorem d_Fil_resize_72 : decode prog_5_method_4_code 72 = .ok (.iconst 1, 1) := by decide +kernel
theorem d_Fil_resize_73 : decode prog_5_method_4_code 73 = .ok (.iaload, 1) := by decide +kernel
theorem d_Fil_resize_74 : decode prog_5_method_4_code 74 = .ok (.invokestatic 108, 3) := by decide +kernel
theorem d_Fil_resize_77 : decode prog_5_method_4_code 77 = .ok (.istore_n 3, 1) := by decide +kernel
theorem d_Fil_resize_78 : decode prog_5_method_4_code 78 = .ok (.iload_n 2, 1) := by decide +kernel
theorem d_Fil_resize_79 : decode prog_5_method_4_code 79 = .ok (.invokestatic 108, 3) := by decide +kernel
theorem d_Fil_resize_82 : decode prog_5_method_4_code 82 = .ok (.istore 4, 2) := by decide +kernel
theorem d_Fil_resize_84 : decode prog_5_method_4_code 84 = .ok (.iload 4, 2) := by decide +kernel
theorem d_Fil_resize_86 : decode prog_5_method_4_code 86 = .ok (.iload_n 3, 1) := by decide +kernel
theorem d_Fil_resize_87 : decode prog_5_method_4_code 87 = .ok (.if_icmp .ge 21, 3) := by decide +kernel
theorem d_Fil_resize_90 : decode prog_5_method_4_code 90 = .ok (.aload_n 0, 1) := by decide +kernel
theorem d_Fil_resize_91 : decode prog_5_method_4_code 91 = .ok (.iload 4, 2) := by decide +kernel
theorem d_Fil_resize_93 : decode prog_5_method_4_code 93 = .ok (.invokevirtual 53, 3) := by decide +kernel
theorem d_Fil_resize_96 : decode prog_5_method_4_code 96 = .ok (.aload_n 0, 1) := by decide +kernel
theorem d_Fil_resize_97 : decode prog_5_method_4_code 97 = .ok (.iload 4, 2) := by decide +kernel
theorem d_Fil_resize_99 : decode prog_5_method_4_code 99 = .ok (.invokevirtual 111, 3) := by decide +kernel
theorem d_Fil_resize_102 : decode prog_5_method_4_code 102 = .ok (.iinc 4 1, 3) := by decide +kernel
theorem d_Fil_resize_105 : decode prog_5_method_4_code 105 = .ok (.goto (-21), 3) := by decide +kernel
theorem d_Fil_resize_108 : decode prog_5_method_4_code 108 = .ok (.aload_n 0, 1) := by decide +kernel
theorem d_Fil_resize_109 : decode prog_5_method_4_code 109 = .ok (.getfield 23, 3) := by decide +kernel
theorem d_Fil_resize_112 : decode prog_5_method_4_code 112 = .ok (.iconst 3, 1) := by decide +kernel
theorem d_Fil_resize_113 : decode prog_5_method_4_code 113 = .ok (.iload_n 2, 1) := by decide +kernel
theorem d_Fil_resize_114 : decode prog_5_method_4_code 114 = .ok (.ifCond .ne 7, 3) := by decide +kernel
theorem d_Fil_resize_117 : decode prog_5_method_4_code 117 = .ok (.iconst 1, 1) := by decide +kernel
theorem d_Fil_resize_118 : decode prog_5_method_4_code 118 = .ok (.goto 4, 3) := by decide +kernel
theorem d_Fil_resize_121 : decode prog_5_method_4_code 121 = .ok (.iconst 0, 1) := by decide +kernel
theorem d_Fil_resize_122 : decode prog_5_method_4_code 122 = .ok (.iastore, 1) := by decide +kernel
theorem d_Fil_resize_123 : decode prog_5_method_4_code 123 = .ok (.aload_n 0, 1) := by decide +kernel
theorem d_Fil_resize_124 : decode prog_5_method_4_code 124 = .ok (.getfield 23, 3) := by decide +kernel
theorem d_Fil_resize_127 : decode prog_5_method_4_code 127 = .ok (.iconst 1, 1) := by decide +kernel
theorem d_Fil_resize_128 : decode prog_5_method_4_code 128 = .ok (.iload_n 2, 1) := by decide +kernel
theorem d_Fil_resize_129 : decode prog_5_method_4_code 129 = .ok (.iastore, 1) := by decide +kernel
theorem d_Fil_resize_130 : decode prog_5_method_4_code 130 = .ok (.aload_n 0, 1) := by decide +kernel
theorem d_Fil_resize_131 : decode prog_5_method_4_code 131 = .ok (.iconst 0, 1) := by decide +kernel
theorem d_Fil_resize_132 : decode prog_5_method_4_code 132 = .ok (.invokevirtual 76, 3) := by decide +kernel
theorem d_Fil_resize_135 : decode prog_5_method_4_code 135 = .ok (.return_, 1) := by decide +kernel
set_option maxHeartbeats 4000000 in
set_option maxRecDepth 100000 in
theorem v_Fil_resize_123 {p : Program} {l : Launch} {e : Env} {s : State} {m : MethodId} {args : Array Value} {below : List Frame} {meth : Method} {c : Code} {D : va_G} {ad : Nat → Nat} {ca : Nat → ClassId} {A : Nat → Prop} {FU : Nat} {q : St} (X : FX p s m meth c prog_5_method_4_code 5 none "FlashFiles$Files" D (tyF ca) A) {y2 : Int32} {g : St} {H : Heap} {locs : List Loc} {ls : Array Slot} (hP : va_P D cls (wF ad ca g) H) (hD : va_D A (wF ad ca g)) (hS : va_S A s.heap H locs) (hl : lv_has ls 5 [(0, .ref (ad 6)), (2, .int y2)]) (h : Fil_resize_b123 FU y2 g = some q) : W p l e (rmN 7) s m args below meth c H locs 0 0 (MQ below (fxQv D (tyF ca) A (wF ad ca q)) args s 0 0 A) (F0 m 123 ls []) := by
  have hx := X.1
  have hb := X.2.1
  unfold Fil_resize_b123 at h
  refine lv_aload_n hx hb d_Fil_resize_123 rfl (lv_at hl 0 rfl) ?_
  refine gF_fil_inode X hP d_Fil_resize_124 ?_
  refine lv_iconst (v := 1) hx hb d_Fil_resize_127 (by decide) ?_
  refine lv_iload_n hx hb d_Fil_resize_128 rfl (lv_at hl 1 rfl) ?_
  obtain ⟨g1, e1, h⟩ := bd_some h
  refine sF_13 X hP hD hS e1 d_Fil_resize_129 (fun H locs hP hD hS => ?_)
  refine lv_aload_n hx hb d_Fil_resize_130 rfl (lv_at hl 0 rfl) ?_
  refine lv_iconst (v := 0) hx hb d_Fil_resize_131 (by decide) ?_
  obtain ⟨p2, e1, h⟩ := bd_some h
  refine fx_v X (fx_runV (As := [.int (0 : Int32)]) X (m_Fil_finish e1 _) hP hD kv_Fil_76 ⟨Nat.le_of_ble_eq_true rfl, Nat.le_of_ble_eq_true rfl⟩ 6 rfl rfl rfl hl.1 rfl (Nat.le_of_ble_eq_true rfl) d_Fil_resize_132) hD hS (fun H locs hP hD hS => ?_)
  cases h
  exact fx_vret X hP hD hS d_Fil_resize_135
set_option maxHeartbeats 4000000 in
set_option maxRecDepth 100000 in
theorem v_Fil_resize_122 {p : Program} {l : Launch} {e : Env} {s : State} {m : MethodId} {args : Array Value} {below : List Frame} {meth : Method} {c : Code} {D : va_G} {ad : Nat → Nat} {ca : Nat → ClassId} {A : Nat → Prop} {FU : Nat} {q : St} (X : FX p s m meth c prog_5_method_4_code 5 none "FlashFiles$Files" D (tyF ca) A) {y2 : Int32} {z0 : Int32} {z1 : Int32} {g : St} {H : Heap} {locs : List Loc} {ls : Array Slot} (hP : va_P D cls (wF ad ca g) H) (hD : va_D A (wF ad ca g)) (hS : va_S A s.heap H locs) (hl : lv_has ls 5 [(0, .ref (ad 6)), (2, .int y2)]) (h : Fil_resize_b122 FU y2 z0 z1 g = some q) : W p l e (rmN 7) s m args below meth c H locs 0 0 (MQ below (fxQv D (tyF ca) A (wF ad ca q)) args s 0 0 A) (F0 m 122 ls [.int z0, .int z1, .ref (ad 24)]) := by
  have hx := X.1
  have hb := X.2.1
  unfold Fil_resize_b122 at h
  obtain ⟨g3, e1, h⟩ := bd_some h
  refine sF_13 X hP hD hS e1 d_Fil_resize_122 (fun H locs hP hD hS => ?_)
  exact v_Fil_resize_123 X  hP hD hS (lv_sub hl [0, 1] rfl) h
set_option maxHeartbeats 4000000 in
set_option maxRecDepth 100000 in
theorem v_Fil_resize_84 {p : Program} {l : Launch} {e : Env} {s : State} {m : MethodId} {args : Array Value} {below : List Frame} {meth : Method} {c : Code} {D : va_G} {ad : Nat → Nat} {ca : Nat → ClassId} {A : Nat → Prop} {FU : Nat} {q : St} (X : FX p s m meth c prog_5_method_4_code 5 none "FlashFiles$Files" D (tyF ca) A) : ∀ (n : Nat), ∀ (y2 y3 y4 : Int32) (g : St) (H : Heap) (locs : List Loc) (ls : Array Slot), va_P D cls (wF ad ca g) H → va_D A (wF ad ca g) → va_S A s.heap H locs → lv_has ls 5 [(0, .ref (ad 6)), (2, .int y2), (3, .int y3), (4, .int y4)] → Fil_resize_b84 FU n y2 y3 y4 g = some q → W p l e (rmN 7) s m args below meth c H locs 0 0 (MQ below (fxQv D (tyF ca) A (wF ad ca q)) args s 0 0 A) (F0 m 84 ls []) := by
  have hx := X.1
  have hb := X.2.1
  intro n
  induction n with
  | zero =>
    intro y2 y3 y4 g H locs ls hP hD hS hl h
    cases h
  | succ n ih =>
    intro y2 y3 y4 g H locs ls hP hD hS hl h
    have h := h
    rw [Fil_resize_b84.eq_2] at h
    refine lv_iload hx hb d_Fil_resize_84 (lv_at hl 3 rfl) ?_
    refine lv_iload_n hx hb d_Fil_resize_86 rfl (lv_at hl 2 rfl) ?_
    refine lv_icmp_ge (tgt := 108) hx hb d_Fil_resize_87 (by decide) (fun hc => ?_) (fun hc => ?_)
    · have h := if_t hc h
      refine lv_aload_n hx hb d_Fil_resize_108 rfl (lv_at hl 0 rfl) ?_
      refine gF_fil_inode X hP d_Fil_resize_109 ?_
      refine lv_iconst (v := 3) hx hb d_Fil_resize_112 (by decide) ?_
      refine lv_iload_n hx hb d_Fil_resize_113 rfl (lv_at hl 1 rfl) ?_
      refine lv_if_ne (tgt := 121) hx hb d_Fil_resize_114 (by decide) (fun hc => ?_) (fun hc => ?_)
      · have h := if_f hc h
        refine lv_iconst (v := 0) hx hb d_Fil_resize_121 (by decide) ?_
        exact v_Fil_resize_122 X  hP hD hS (lv_sub hl [0, 1] rfl) h
      · have h := if_t hc h
        refine lv_iconst (v := 1) hx hb d_Fil_resize_117 (by decide) ?_
        refine lv_goto (tgt := 122) hx hb d_Fil_resize_118 (by decide) ?_
        exact v_Fil_resize_122 X  hP hD hS (lv_sub hl [0, 1] rfl) h
    · have h := if_f hc h
      refine lv_aload_n hx hb d_Fil_resize_90 rfl (lv_at hl 0 rfl) ?_
      refine lv_iload hx hb d_Fil_resize_91 (lv_at hl 3 rfl) ?_
      obtain ⟨p4, e1, h⟩ := bd_some h
      refine fx_v X (fx_runV (As := [.int y4]) X (m_Fil_turnTo e1 _) hP hD kv_Fil_53 ⟨Nat.le_of_ble_eq_true rfl, Nat.le_of_ble_eq_true rfl⟩ 6 rfl rfl rfl hl.1 rfl (Nat.le_of_ble_eq_true rfl) d_Fil_resize_93) hD hS (fun H locs hP hD hS => ?_)
      refine lv_aload_n hx hb d_Fil_resize_96 rfl (lv_at hl 0 rfl) ?_
      refine lv_iload hx hb d_Fil_resize_97 (lv_at hl 3 rfl) ?_
      obtain ⟨p5, e1, h⟩ := bd_some h
      refine fx_v X (fx_runV (As := [.int y4]) X (m_Fil_cutBlock e1 _) hP hD kv_Fil_111 ⟨Nat.le_of_ble_eq_true rfl, Nat.le_of_ble_eq_true rfl⟩ 6 rfl rfl rfl hl.1 rfl (Nat.le_of_ble_eq_true rfl) d_Fil_resize_99) hD hS (fun H locs hP hD hS => ?_)
      refine lv_iinc (k := 3) (v := (y4 + (1 : Int32))) hx hb d_Fil_resize_102 hl rfl (oi_1 _) (by decide) rfl (fun ls hl => ?_)
      have hl : lv_has ls 5 [(4, .int (y4 + (1 : Int32))), (0, .ref (ad 6)), (2, .int y2), (3, .int y3)] := hl
      refine lv_goto (tgt := 84) hx hb d_Fil_resize_105 (by decide) ?_
      exact ih _ _ _ _ _ _ _ hP hD hS (lv_sub hl [1, 2, 3, 0] rfl) h
set_option maxHeartbeats 4000000 in
set_option maxRecDepth 100000 in
theorem m_Fil_resize {l : Launch} {D : va_G} {ad : Nat → Nat} {ca : Nat → ClassId} {FU : Nat} {x1 : Int32} {x2 : Int32} {g : St} {q : St} (h : Fil_resize FU x1 x2 g = some q) : CV l ⟨"FlashFiles$Files", "resize", "(II)V"⟩ prog_5_method_4_code 5 7 D (tyF ca) (wF ad ca g) [.ref (ad 6), .int x1, .int x2] (wF ad ca q) := by
  intro sz
  refine Met.fx (Qc := fun A => fxQv D (tyF ca) A (wF ad ca q)) (by decide) (Nat.le_of_ble_eq_true rfl) ?_
  intro p e s m below meth c A ls X hP hD hl
  have hl : lv_has ls 5 [(0, .ref (ad 6)), (1, .int x1), (2, .int x2)] := hl
  have hS : va_S A s.heap s.heap [] := va_S.rf
  have hx := X.1
  have hb := X.2.1
  unfold Fil_resize at h
  refine lv_aload_n hx hb d_Fil_resize_0 rfl (lv_at hl 0 rfl) ?_
  refine lv_iload_n hx hb d_Fil_resize_1 rfl (lv_at hl 1 rfl) ?_
  obtain ⟨p6, e1, h⟩ := bd_some h
  refine fx_v X (fx_runV (As := [.int x1]) X (m_Fil_begin e1 _) hP hD kv_Fil_36 ⟨Nat.le_of_ble_eq_true rfl, Nat.le_of_ble_eq_true rfl⟩ 6 rfl rfl rfl hl.1 rfl (Nat.le_of_ble_eq_true rfl) d_Fil_resize_2) hD hS (fun H locs hP hD hS => ?_)
  refine lv_aload_n hx hb d_Fil_resize_5 rfl (lv_at hl 0 rfl) ?_
  refine gF_fil_inode X hP d_Fil_resize_6 ?_
  refine lv_iconst (v := 3) hx hb d_Fil_resize_9 (by decide) ?_
  obtain ⟨v7, e1, h⟩ := bd_some h
  refine rF_13 X hP e1 d_Fil_resize_10 ?_
  refine lv_iconst (v := 1) hx hb d_Fil_resize_11 (by decide) ?_
  refine lv_icmp_ne (tgt := 44) hx hb d_Fil_resize_12 (by decide) (fun hc => ?_) (fun hc => ?_)
  · have h := if_f hc h
    refine lv_iload_n hx hb d_Fil_resize_44 rfl (lv_at hl 2 rfl) ?_
    refine lv_aload_n hx hb d_Fil_resize_45 rfl (lv_at hl 0 rfl) ?_
    refine gF_fil_inode X hP d_Fil_resize_46 ?_
    refine lv_iconst (v := 1) hx hb d_Fil_resize_49 (by decide) ?_
    obtain ⟨v8, e1, h⟩ := bd_some h
    refine rF_13 X hP e1 d_Fil_resize_50 ?_
    refine lv_icmp_ge (tgt := 123) hx hb d_Fil_resize_51 (by decide) (fun hc => ?_) (fun hc => ?_)
    · have h := if_t hc h
      exact v_Fil_resize_123 X  hP hD hS (lv_sub hl [0, 2] rfl) h
    · have h := if_f hc h
      refine lv_aload_n hx hb d_Fil_resize_54 rfl (lv_at hl 0 rfl) ?_
      refine lv_iload_n hx hb d_Fil_resize_55 rfl (lv_at hl 2 rfl) ?_
      refine lv_sipush (v := 256) hx hb d_Fil_resize_56 (by decide) ?_
      refine lv_idiv hx hb d_Fil_resize_59 (by decide) ?_
      obtain ⟨p9, e1, h⟩ := bd_some h
      refine fx_v X (fx_runV (As := [.int (x2 / (256 : Int32))]) X (m_Fil_turnTo e1 _) hP hD kv_Fil_53 ⟨Nat.le_of_ble_eq_true rfl, Nat.le_of_ble_eq_true rfl⟩ 6 rfl rfl rfl hl.1 rfl (Nat.le_of_ble_eq_true rfl) d_Fil_resize_60) hD hS (fun H locs hP hD hS => ?_)
      refine lv_aload_n hx hb d_Fil_resize_63 rfl (lv_at hl 0 rfl) ?_
      refine lv_iload_n hx hb d_Fil_resize_64 rfl (lv_at hl 2 rfl) ?_
      obtain ⟨p10, e1, h⟩ := bd_some h
      refine fx_v X (fx_runV (As := [.int x2]) X (m_Fil_clearTail e1 _) hP hD kv_Fil_105 ⟨Nat.le_of_ble_eq_true rfl, Nat.le_of_ble_eq_true rfl⟩ 6 rfl rfl rfl hl.1 rfl (Nat.le_of_ble_eq_true rfl) d_Fil_resize_65) hD hS (fun H locs hP hD hS => ?_)
      refine lv_aload_n hx hb d_Fil_resize_68 rfl (lv_at hl 0 rfl) ?_
      refine gF_fil_inode X hP d_Fil_resize_69 ?_
      refine lv_iconst (v := 1) hx hb d_Fil_resize_72 (by decide) ?_
      obtain ⟨v11, e1, h⟩ := bd_some h
      refine rF_13 X hP e1 d_Fil_resize_73 ?_
      obtain ⟨v12, e1, h⟩ := bd_some h
      refine fx_i X (fx_runN X (m_FF_blocksBegun e1 _) (As := [.int v11]) hP hD kn_Fil_108 ⟨Nat.le_of_ble_eq_true rfl, Nat.le_of_ble_eq_true rfl⟩ rfl hl.1 rfl (Nat.le_of_ble_eq_true rfl) d_Fil_resize_74) hD hS (fun H locs hP hD hS => ?_)
      refine lv_istore_n hx hb d_Fil_resize_77 rfl hl (by decide) rfl (fun ls hl => ?_)
      have hl : lv_has ls 5 [(3, .int v12), (0, .ref (ad 6)), (1, .int x1), (2, .int x2)] := hl
      refine lv_iload_n hx hb d_Fil_resize_78 rfl (lv_at hl 3 rfl) ?_
      obtain ⟨v13, e1, h⟩ := bd_some h
      refine fx_i X (fx_runN X (m_FF_blocksBegun e1 _) (As := [.int x2]) hP hD kn_Fil_108 ⟨Nat.le_of_ble_eq_true rfl, Nat.le_of_ble_eq_true rfl⟩ rfl hl.1 rfl (Nat.le_of_ble_eq_true rfl) d_Fil_resize_79) hD hS (fun H locs hP hD hS => ?_)
      refine lv_istore hx hb d_Fil_resize_82 hl (by decide) rfl (fun ls hl => ?_)
      have hl : lv_has ls 5 [(4, .int v13), (3, .int v12), (0, .ref (ad 6)), (1, .int x1), (2, .int x2)] := hl
      exact v_Fil_resize_84 X  _ _ _ _ _ _ _ _ hP hD hS (lv_sub hl [2, 4, 1, 0] rfl) h
  · have h := if_t hc h
    refine lv_iload_n hx hb d_Fil_resize_15 rfl (lv_at hl 2 rfl) ?_
    refine lv_bipush (v := 96) hx hb d_Fil_resize_16 (by decide) ?_
    refine lv_icmp_le (tgt := 28) hx hb d_Fil_resize_18 (by decide) (fun hc => ?_) (fun hc => ?_)
    · have h := if_t hc h
      refine lv_aload_n hx hb d_Fil_resize_28 rfl (lv_at hl 0 rfl) ?_
      refine lv_aload_n hx hb d_Fil_resize_29 rfl (lv_at hl 0 rfl) ?_
      refine gF_fil_inode X hP d_Fil_resize_30 ?_
      refine lv_bipush (v := 30) hx hb d_Fil_resize_33 (by decide) ?_
      refine lv_iload_n hx hb d_Fil_resize_35 rfl (lv_at hl 2 rfl) ?_
      refine lv_bipush (v := 96) hx hb d_Fil_resize_36 (by decide) ?_
      obtain ⟨p14, e1, h⟩ := bd_some h
      refine fx_v X (fx_runV (As := [.ref (ad 24), .int (30 : Int32), .int x2, .int (96 : Int32)]) X (m_Fil_clearFrom_13 e1 _) hP hD kv_Fil_102 ⟨Nat.le_of_ble_eq_true rfl, Nat.le_of_ble_eq_true rfl⟩ 6 rfl rfl rfl hl.1 rfl (Nat.le_of_ble_eq_true rfl) d_Fil_resize_38) hD hS (fun H locs hP hD hS => ?_)
      refine lv_goto (tgt := 123) hx hb d_Fil_resize_41 (by decide) ?_
      exact v_Fil_resize_123 X  hP hD hS (lv_sub hl [0, 2] rfl) h
    · have h := if_f hc h
      refine lv_aload_n hx hb d_Fil_resize_21 rfl (lv_at hl 0 rfl) ?_
      obtain ⟨p15, e1, h⟩ := bd_some h
      refine fx_v X (fx_runV (As := []) X (m_Fil_leaveSmall e1 _) hP hD kv_Fil_50 ⟨Nat.le_of_ble_eq_true rfl, Nat.le_of_ble_eq_true rfl⟩ 6 rfl rfl rfl hl.1 rfl (Nat.le_of_ble_eq_true rfl) d_Fil_resize_22) hD hS (fun H locs hP hD hS => ?_)
      refine lv_goto (tgt := 123) hx hb d_Fil_resize_25 (by decide) ?_
      exact v_Fil_resize_123 X  hP hD hS (lv_sub hl [0, 2] rfl) h
theorem d_Fil_commitAlone_0 : decode prog_5_method_5_code 0 = .ok (.aload_n 0, 1) := by decide +kernel
theorem d_Fil_commitAlone_1 : decode prog_5_method_5_code 1 = .ok (.iload_n 1, 1) := by decide +kernel
theorem d_Fil_commitAlone_2 : decode prog_5_method_5_code 2 = .ok (.invokevirtual 36, 3) := by decide +kernel
theorem d_Fil_commitAlone_5 : decode prog_5_method_5_code 5 = .ok (.aload_n 0, 1) := by decide +kernel
theorem d_Fil_commitAlone_6 : decode prog_5_method_5_code 6 = .ok (.iconst 1, 1) := by decide +kernel
theorem d_Fil_commitAlone_7 : decode prog_5_method_5_code 7 = .ok (.invokevirtual 76, 3) := by decide +kernel
theorem d_Fil_commitAlone_10 : decode prog_5_method_5_code 10 = .ok (.return_, 1) := by decide +kernel
set_option maxHeartbeats 4000000 in
set_option maxRecDepth 100000 in
theorem m_Fil_commitAlone {l : Launch} {D : va_G} {ad : Nat → Nat} {ca : Nat → ClassId} {FU : Nat} {x1 : Int32} {g : St} {q : St} (h : Fil_commitAlone FU x1 g = some q) : CV l ⟨"FlashFiles$Files", "commitAlone", "(I)V"⟩ prog_5_method_5_code 2 7 D (tyF ca) (wF ad ca g) [.ref (ad 6), .int x1] (wF ad ca q) := by
  intro sz
  refine Met.fx (Qc := fun A => fxQv D (tyF ca) A (wF ad ca q)) (by decide) (Nat.le_of_ble_eq_true rfl) ?_
  intro p e s m below meth c A ls X hP hD hl
  have hl : lv_has ls 2 [(0, .ref (ad 6)), (1, .int x1)] := hl
  have hS : va_S A s.heap s.heap [] := va_S.rf
  have hx := X.1
  have hb := X.2.1
  unfold Fil_commitAlone at h
  refine lv_aload_n hx hb d_Fil_commitAlone_0 rfl (lv_at hl 0 rfl) ?_
  refine lv_iload_n hx hb d_Fil_commitAlone_1 rfl (lv_at hl 1 rfl) ?_
  obtain ⟨p1, e1, h⟩ := bd_some h
  refine fx_v X (fx_runV (As := [.int x1]) X (m_Fil_begin e1 _) hP hD kv_Fil_36 ⟨Nat.le_of_ble_eq_true rfl, Nat.le_of_ble_eq_true rfl⟩ 6 rfl rfl rfl hl.1 rfl (Nat.le_of_ble_eq_true rfl) d_Fil_commitAlone_2) hD hS (fun H locs hP hD hS => ?_)
  refine lv_aload_n hx hb d_Fil_commitAlone_5 rfl (lv_at hl 0 rfl) ?_
  refine lv_iconst (v := 1) hx hb d_Fil_commitAlone_6 (by decide) ?_
  obtain ⟨p2, e1, h⟩ := bd_some h
  refine fx_v X (fx_runV (As := [.int (1 : Int32)]) X (m_Fil_finish e1 _) hP hD kv_Fil_76 ⟨Nat.le_of_ble_eq_true rfl, Nat.le_of_ble_eq_true rfl⟩ 6 rfl rfl rfl hl.1 rfl (Nat.le_of_ble_eq_true rfl) d_Fil_commitAlone_7) hD hS (fun H locs hP hD hS => ?_)
  cases h
  exact fx_vret X hP hD hS d_Fil_commitAlone_10
theorem d_Fil_dropWithData_0 : decode prog_5_method_7_code 0 = .ok (.aload_n 0, 1) := by decide +kernel
theorem d_Fil_dropWithData_1 : decode prog_5_method_7_code 1 = .ok (.getfield 15, 3) := by decide +kernel
theorem d_Fil_dropWithData_4 : decode prog_5_method_7_code 4 = .ok (.iload_n 1, 1) := by decide +kernel
theorem d_Fil_dropWithData_5 : decode prog_5_method_7_code 5 = .ok (.invokevirtual 114, 3) := by decide +kernel
theorem d_Fil_dropWithData_8 : decode prog_5_method_7_code 8 = .ok (.istore_n 2, 1) := by decide +kernel
theorem d_Fil_dropWithData_9 : decode prog_5_method_7_code 9 = .ok (.aload_n 0, 1) := by decide +kernel
theorem d_Fil_dropWithData_10 : decode prog_5_method_7_code 10 = .ok (.getfield 9, 3) := by decide +kernel
theorem d_Fil_dropWithData_13 : decode prog_5_method_7_code 13 = .ok (.iload_n 2, 1) := by decide +kernel
theorem d_Fil_dropWithData_14 : decode prog_5_method_7_code 14 = .ok (.bipush 58, 2) := by decide +kernel
theorem d_Fil_dropWithData_16 : decode prog_5_method_7_code 16 = .ok (.invokevirtual 117, 3) := by decide +kernel
theorem d_Fil_dropWithData_19 : decode prog_5_method_7_code 19 = .ok (.istore_n 3, 1) := by decide +kernel
theorem d_Fil_dropWithData_20 : decode prog_5_method_7_code 20 = .ok (.iload_n 3, 1) := by decide +kernel
theorem d_Fil_dropWithData_21 : decode prog_5_method_7_code 21 = .ok (.invokestatic 128, 3) := by decide +kernel
theorem d_Fil_dropWithData_24 : decode prog_5_method_7_code 24 = .ok (.istore 4, 2) := by decide +kernel
theorem d_Fil_dropWithData_26 : decode prog_5_method_7_code 26 = .ok (.iload_n 2, 1) := by decide +kernel
theorem d_Fil_dropWithData_27 : decode prog_5_method_7_code 27 = .ok (.ifCond .ne 8, 3) := by decide +kernel
theorem d_Fil_dropWithData_30 : decode prog_5_method_7_code 30 = .ok (.iload 4, 2) := by decide +kernel
theorem d_Fil_dropWithData_32 : decode prog_5_method_7_code 32 = .ok (.goto 11, 3) := by decide +kernel
theorem d_Fil_dropWithData_35 : decode prog_5_method_7_code 35 = .ok (.iload 4, 2) := by decide +kernel
theorem d_Fil_dropWithData_37 : decode prog_5_method_7_code 37 = .ok (.iload_n 3, 1) := by decide +kernel
theorem d_Fil_dropWithData_38 : decode prog_5_method_7_code 38 = .ok (.iconst 1, 1) := by decide +kernel
theorem d_Fil_dropWithData_39 : decode prog_5_method_7_code 39 = .ok (.invokestatic 131, 3) := by decide +kernel
theorem d_Fil_dropWithData_42 : decode prog_5_method_7_code 42 = .ok (.iadd, 1) := by decide +kernel
theorem d_Fil_dropWithData_43 : decode prog_5_method_7_code 43 = .ok (.istore 5, 2) := by decide +kernel
theorem d_Fil_dropWithData_45 : decode prog_5_method_7_code 45 = .ok (.iload 4, 2) := by decide +kernel
theorem d_Fil_dropWithData_47 : decode prog_5_method_7_code 47 = .ok (.istore 6, 2) := by decide +kernel
theorem d_Fil_dropWithData_49 : decode prog_5_method_7_code 49 = .ok (.iload 6, 2) := by decide +kernel
theorem d_Fil_dropWithData_51 : decode prog_5_method_7_code 51 = .ok (.iload 5, 2) := by decide +kernel
theorem d_Fil_dropWithData_53 : decode prog_5_method_7_code 53 = .ok (.if_icmp .ge 26, 3) := by decide +kernel
theorem d_Fil_dropWithData_56 : decode prog_5_method_7_code 56 = .ok (.aload_n 0, 1) := by decide +kernel
theorem d_Fil_dropWithData_57 : decode prog_5_method_7_code 57 = .ok (.getfield 19, 3) := by decide +kernel
theorem d_Fil_dropWithData_60 : decode prog_5_method_7_code 60 = .ok (.aload_n 0, 1) := by decide +kernel
theorem d_Fil_dropWithData_61 : decode prog_5_method_7_code 61 = .ok (.getfield 9, 3) := by decide +kernel
theorem d_Fil_dropWithData_64 : decode prog_5_method_7_code 64 = .ok (.iload_n 2, 1) := by decide +kernel
theorem d_Fil_dropWithData_65 : decode prog_5_method_7_code 65 = .ok (.iload 6, 2) := by decide +kernel
theorem d_Fil_dropWithData_67 : decode prog_5_method_7_code 67 = .ok (.invokevirtual 117, 3) := by decide +kernel
theorem d_Fil_dropWithData_70 : decode prog_5_method_7_code 70 = .ok (.invokevirtual 134, 3) := by decide +kernel
theorem d_Fil_dropWithData_73 : decode prog_5_method_7_code 73 = .ok (.iinc 6 1, 3) := by decide +kernel
theorem d_Fil_dropWithData_76 : decode prog_5_method_7_code 76 = .ok (.goto (-27), 3) := by decide +kernel
theorem d_Fil_dropWithData_79 : decode prog_5_method_7_code 79 = .ok (.aload_n 0, 1) := by decide +kernel
theorem d_Fil_dropWithData_80 : decode prog_5_method_7_code 80 = .ok (.getfield 19, 3) := by decide +kernel
theorem d_Fil_dropWithData_83 : decode prog_5_method_7_code 83 = .ok (.iload_n 1, 1) := by decide +kernel
theorem d_Fil_dropWithData_84 : decode prog_5_method_7_code 84 = .ok (.invokevirtual 137, 3) := by decide +kernel
theorem d_Fil_dropWithData_87 : decode prog_5_method_7_code 87 = .ok (.return_, 1) := by decide +kernel
set_option maxHeartbeats 4000000 in
set_option maxRecDepth 100000 in
theorem v_Fil_dropWithData_49 {p : Program} {l : Launch} {e : Env} {s : State} {m : MethodId} {args : Array Value} {below : List Frame} {meth : Method} {c : Code} {D : va_G} {ad : Nat → Nat} {ca : Nat → ClassId} {A : Nat → Prop} {FU : Nat} {q : St} (X : FX p s m meth c prog_5_method_7_code 7 none "FlashFiles$Files" D (tyF ca) A) : ∀ (n : Nat), ∀ (y1 y2 y5 y6 : Int32) (g : St) (H : Heap) (locs : List Loc) (ls : Array Slot), va_P D cls (wF ad ca g) H → va_D A (wF ad ca g) → va_S A s.heap H locs → lv_has ls 7 [(0, .ref (ad 6)), (1, .int y1), (2, .int y2), (5, .int y5), (6, .int y6)] → Fil_dropWithData_b49 FU n y1 y2 y5 y6 g = some q → W p l e (rmN 4) s m args below meth c H locs 0 0 (MQ below (fxQv D (tyF ca) A (wF ad ca q)) args s 0 0 A) (F0 m 49 ls []) := by
  have hx := X.1
  have hb := X.2.1
  intro n
  induction n with
  | zero =>
    intro y1 y2 y5 y6 g H locs ls hP hD hS hl h
    cases h
  | succ n ih =>
    intro y1 y2 y5 y6 g H locs ls hP hD hS hl h
    have h := h
    rw [Fil_dropWithData_b49.eq_2] at h
    refine lv_iload hx hb d_Fil_dropWithData_49 (lv_at hl 4 rfl) ?_
    refine lv_iload hx hb d_Fil_dropWithData_51 (lv_at hl 3 rfl) ?_
    refine lv_icmp_ge (tgt := 79) hx hb d_Fil_dropWithData_53 (by decide) (fun hc => ?_) (fun hc => ?_)
    · have h := if_t hc h
      refine lv_aload_n hx hb d_Fil_dropWithData_79 rfl (lv_at hl 0 rfl) ?_
      refine gF_fil_log X hP d_Fil_dropWithData_80 ?_
      refine lv_iload_n hx hb d_Fil_dropWithData_83 rfl (lv_at hl 1 rfl) ?_
      obtain ⟨p1, e1, h⟩ := bd_some h
      refine fx_v X (fx_runV (As := [.int y1]) X (m_Log_dropNode e1 _) hP hD kv_Fil_137 ⟨Nat.le_of_ble_eq_true rfl, Nat.le_of_ble_eq_true rfl⟩ 5 rfl rfl rfl hl.1 rfl (Nat.le_of_ble_eq_true rfl) d_Fil_dropWithData_84) hD hS (fun H locs hP hD hS => ?_)
      cases h
      exact fx_vret X hP hD hS d_Fil_dropWithData_87
    · have h := if_f hc h
      refine lv_aload_n hx hb d_Fil_dropWithData_56 rfl (lv_at hl 0 rfl) ?_
      refine gF_fil_log X hP d_Fil_dropWithData_57 ?_
      refine lv_aload_n hx hb d_Fil_dropWithData_60 rfl (lv_at hl 0 rfl) ?_
      refine gF_fil_device X hP d_Fil_dropWithData_61 ?_
      refine lv_iload_n hx hb d_Fil_dropWithData_64 rfl (lv_at hl 2 rfl) ?_
      refine lv_iload hx hb d_Fil_dropWithData_65 (lv_at hl 4 rfl) ?_
      obtain ⟨v2, e1, h⟩ := bd_some h
      refine fx_i X (fx_runV (As := [.int y2, .int y6]) X (m_Dev_word e1 _) hP hD kv_Fil_117 ⟨Nat.le_of_ble_eq_true rfl, Nat.le_of_ble_eq_true rfl⟩ 3 rfl rfl rfl hl.1 rfl (Nat.le_of_ble_eq_true rfl) d_Fil_dropWithData_67) hD hS (fun H locs hP hD hS => ?_)
      obtain ⟨p3, e1, h⟩ := bd_some h
      refine fx_v X (fx_runV (As := [.int v2]) X (m_Log_drop e1 _) hP hD kv_Fil_134 ⟨Nat.le_of_ble_eq_true rfl, Nat.le_of_ble_eq_true rfl⟩ 5 rfl rfl rfl hl.1 rfl (Nat.le_of_ble_eq_true rfl) d_Fil_dropWithData_70) hD hS (fun H locs hP hD hS => ?_)
      refine lv_iinc (k := 4) (v := (y6 + (1 : Int32))) hx hb d_Fil_dropWithData_73 hl rfl (oi_1 _) (by decide) rfl (fun ls hl => ?_)
      have hl : lv_has ls 7 [(6, .int (y6 + (1 : Int32))), (0, .ref (ad 6)), (1, .int y1), (2, .int y2), (5, .int y5)] := hl
      refine lv_goto (tgt := 49) hx hb d_Fil_dropWithData_76 (by decide) ?_
      exact ih _ _ _ _ _ _ _ _ hP hD hS (lv_sub hl [1, 2, 3, 4, 0] rfl) h
set_option maxHeartbeats 4000000 in
set_option maxRecDepth 100000 in
theorem v_Fil_dropWithData_43 {p : Program} {l : Launch} {e : Env} {s : State} {m : MethodId} {args : Array Value} {below : List Frame} {meth : Method} {c : Code} {D : va_G} {ad : Nat → Nat} {ca : Nat → ClassId} {A : Nat → Prop} {FU : Nat} {q : St} (X : FX p s m meth c prog_5_method_7_code 7 none "FlashFiles$Files" D (tyF ca) A) {y1 : Int32} {y2 : Int32} {y4 : Int32} {z0 : Int32} {g : St} {H : Heap} {locs : List Loc} {ls : Array Slot} (hP : va_P D cls (wF ad ca g) H) (hD : va_D A (wF ad ca g)) (hS : va_S A s.heap H locs) (hl : lv_has ls 7 [(0, .ref (ad 6)), (1, .int y1), (2, .int y2), (4, .int y4)]) (h : Fil_dropWithData_b43 FU y1 y2 y4 z0 g = some q) : W p l e (rmN 4) s m args below meth c H locs 0 0 (MQ below (fxQv D (tyF ca) A (wF ad ca q)) args s 0 0 A) (F0 m 43 ls [.int z0]) := by
  have hx := X.1
  have hb := X.2.1
  unfold Fil_dropWithData_b43 at h
  refine lv_istore hx hb d_Fil_dropWithData_43 hl (by decide) rfl (fun ls hl => ?_)
  have hl : lv_has ls 7 [(5, .int z0), (0, .ref (ad 6)), (1, .int y1), (2, .int y2), (4, .int y4)] := hl
  refine lv_iload hx hb d_Fil_dropWithData_45 (lv_at hl 4 rfl) ?_
  refine lv_istore hx hb d_Fil_dropWithData_47 hl (by decide) rfl (fun ls hl => ?_)
  have hl : lv_has ls 7 [(6, .int y4), (5, .int z0), (0, .ref (ad 6)), (1, .int y1), (2, .int y2), (4, .int y4)] := hl
  exact v_Fil_dropWithData_49 X  _ _ _ _ _ _ _ _ _ hP hD hS (lv_sub hl [2, 3, 4, 1, 0] rfl) h
set_option maxHeartbeats 4000000 in
set_option maxRecDepth 100000 in
theorem m_Fil_dropWithData {l : Launch} {D : va_G} {ad : Nat → Nat} {ca : Nat → ClassId} {FU : Nat} {x1 : Int32} {g : St} {q : St} (h : Fil_dropWithData FU x1 g = some q) : CV l ⟨"FlashFiles$Files", "dropWithData", "(I)V"⟩ prog_5_method_7_code 7 4 D (tyF ca) (wF ad ca g) [.ref (ad 6), .int x1] (wF ad ca q) := by
  intro sz
  refine Met.fx (Qc := fun A => fxQv D (tyF ca) A (wF ad ca q)) (by decide) (Nat.le_of_ble_eq_true rfl) ?_
  intro p e s m below meth c A ls X hP hD hl
  have hl : lv_has ls 7 [(0, .ref (ad 6)), (1, .int x1)] := hl
  have hS : va_S A s.heap s.heap [] := va_S.rf
  have hx := X.1
  have hb := X.2.1
  unfold Fil_dropWithData at h
  refine lv_aload_n hx hb d_Fil_dropWithData_0 rfl (lv_at hl 0 rfl) ?_
  refine gF_fil_table X hP d_Fil_dropWithData_1 ?_
  refine lv_iload_n hx hb d_Fil_dropWithData_4 rfl (lv_at hl 1 rfl) ?_
  obtain ⟨v4, e1, h⟩ := bd_some h
  refine fx_i X (fx_runV (As := [.int x1]) X (m_Tab_placeOf e1 _) hP hD kv_Fil_114 ⟨Nat.le_of_ble_eq_true rfl, Nat.le_of_ble_eq_true rfl⟩ 4 rfl rfl rfl hl.1 rfl (Nat.le_of_ble_eq_true rfl) d_Fil_dropWithData_5) hD hS (fun H locs hP hD hS => ?_)
  refine lv_istore_n hx hb d_Fil_dropWithData_8 rfl hl (by decide) rfl (fun ls hl => ?_)
  have hl : lv_has ls 7 [(2, .int v4), (0, .ref (ad 6)), (1, .int x1)] := hl
  refine lv_aload_n hx hb d_Fil_dropWithData_9 rfl (lv_at hl 1 rfl) ?_
  refine gF_fil_device X hP d_Fil_dropWithData_10 ?_
  refine lv_iload_n hx hb d_Fil_dropWithData_13 rfl (lv_at hl 0 rfl) ?_
  refine lv_bipush (v := 58) hx hb d_Fil_dropWithData_14 (by decide) ?_
  obtain ⟨v5, e1, h⟩ := bd_some h
  refine fx_i X (fx_runV (As := [.int v4, .int (58 : Int32)]) X (m_Dev_word e1 _) hP hD kv_Fil_117 ⟨Nat.le_of_ble_eq_true rfl, Nat.le_of_ble_eq_true rfl⟩ 3 rfl rfl rfl hl.1 rfl (Nat.le_of_ble_eq_true rfl) d_Fil_dropWithData_16) hD hS (fun H locs hP hD hS => ?_)
  refine lv_istore_n hx hb d_Fil_dropWithData_19 rfl hl (by decide) rfl (fun ls hl => ?_)
  have hl : lv_has ls 7 [(3, .int v5), (2, .int v4), (0, .ref (ad 6)), (1, .int x1)] := hl
  refine lv_iload_n hx hb d_Fil_dropWithData_20 rfl (lv_at hl 0 rfl) ?_
  obtain ⟨v6, e1, h⟩ := bd_some h
  refine fx_i X (fx_runN X (m_FF_pointersFrom e1 _) (As := [.int v5]) hP hD kn_Fil_128 ⟨Nat.le_of_ble_eq_true rfl, Nat.le_of_ble_eq_true rfl⟩ rfl hl.1 rfl (Nat.le_of_ble_eq_true rfl) d_Fil_dropWithData_21) hD hS (fun H locs hP hD hS => ?_)
  refine lv_istore hx hb d_Fil_dropWithData_24 hl (by decide) rfl (fun ls hl => ?_)
  have hl : lv_has ls 7 [(4, .int v6), (3, .int v5), (2, .int v4), (0, .ref (ad 6)), (1, .int x1)] := hl
  refine lv_iload_n hx hb d_Fil_dropWithData_26 rfl (lv_at hl 2 rfl) ?_
  refine lv_if_ne (tgt := 35) hx hb d_Fil_dropWithData_27 (by decide) (fun hc => ?_) (fun hc => ?_)
  · have h := if_f hc h
    refine lv_iload hx hb d_Fil_dropWithData_35 (lv_at hl 0 rfl) ?_
    refine lv_iload_n hx hb d_Fil_dropWithData_37 rfl (lv_at hl 1 rfl) ?_
    refine lv_iconst (v := 1) hx hb d_Fil_dropWithData_38 (by decide) ?_
    obtain ⟨v7, e1, h⟩ := bd_some h
    refine fx_i X (fx_runN X (m_FF_pointersIn e1 _) (As := [.int v5, .int (1 : Int32)]) hP hD kn_Fil_131 ⟨Nat.le_of_ble_eq_true rfl, Nat.le_of_ble_eq_true rfl⟩ rfl hl.1 rfl (Nat.le_of_ble_eq_true rfl) d_Fil_dropWithData_39) hD hS (fun H locs hP hD hS => ?_)
    refine lv_iadd hx hb d_Fil_dropWithData_42 ?_
    exact v_Fil_dropWithData_43 X  hP hD hS (lv_sub hl [3, 4, 2, 0] rfl) h
  · have h := if_t hc h
    refine lv_iload hx hb d_Fil_dropWithData_30 (lv_at hl 0 rfl) ?_
    refine lv_goto (tgt := 43) hx hb d_Fil_dropWithData_32 (by decide) ?_
    exact v_Fil_dropWithData_43 X  hP hD hS (lv_sub hl [3, 4, 2, 0] rfl) h
theorem d_Fil_drop_0 : decode prog_5_method_6_code 0 = .ok (.aload_n 0, 1) := by decide +kernel
theorem d_Fil_drop_1 : decode prog_5_method_6_code 1 = .ok (.getfield 15, 3) := by decide +kernel
theorem d_Fil_drop_4 : decode prog_5_method_6_code 4 = .ok (.iload_n 1, 1) := by decide +kernel
theorem d_Fil_drop_5 : decode prog_5_method_6_code 5 = .ok (.invokevirtual 114, 3) := by decide +kernel
theorem d_Fil_drop_8 : decode prog_5_method_6_code 8 = .ok (.istore_n 2, 1) := by decide +kernel
theorem d_Fil_drop_9 : decode prog_5_method_6_code 9 = .ok (.aload_n 0, 1) := by decide +kernel
theorem d_Fil_drop_10 : decode prog_5_method_6_code 10 = .ok (.getfield 15, 3) := by decide +kernel
theorem d_Fil_drop_13 : decode prog_5_method_6_code 13 = .ok (.aload_n 0, 1) := by decide +kernel
theorem d_Fil_drop_14 : decode prog_5_method_6_code 14 = .ok (.getfield 9, 3) := by decide +kernel
theorem d_Fil_drop_17 : decode prog_5_method_6_code 17 = .ok (.iload_n 2, 1) := by decide +kernel
theorem d_Fil_drop_18 : decode prog_5_method_6_code 18 = .ok (.bipush 28, 2) := by decide +kernel
theorem d_Fil_drop_20 : decode prog_5_method_6_code 20 = .ok (.invokevirtual 117, 3) := by decide +kernel
theorem d_Fil_drop_23 : decode prog_5_method_6_code 23 = .ok (.invokevirtual 114, 3) := by decide +kernel
theorem d_Fil_drop_26 : decode prog_5_method_6_code 26 = .ok (.istore_n 3, 1) := by decide +kernel
theorem d_Fil_drop_27 : decode prog_5_method_6_code 27 = .ok (.iconst 0, 1) := by decide +kernel
theorem d_Fil_drop_28 : decode prog_5_method_6_code 28 = .ok (.istore 4, 2) := by decide +kernel
theorem d_Fil_drop_30 : decode prog_5_method_6_code 30 = .ok (.iload_n 3, 1) := by decide +kernel
theorem d_Fil_drop_31 : decode prog_5_method_6_code 31 = .ok (.ifCond .eq 30, 3) := by decide +kernel
theorem d_Fil_drop_34 : decode prog_5_method_6_code 34 = .ok (.iload 4, 2) := by decide +kernel
theorem d_Fil_drop_36 : decode prog_5_method_6_code 36 = .ok (.bipush 56, 2) := by decide +kernel
theorem d_Fil_drop_38 : decode prog_5_method_6_code 38 = .ok (.if_icmp .ge 23, 3) := by decide +kernel
theorem d_Fil_drop_41 : decode prog_5_method_6_code 41 = .ok (.aload_n 0, 1) := by decide +kernel
theorem d_Fil_drop_42 : decode prog_5_method_6_code 42 = .ok (.aload_n 0, 1) := by decide +kernel
theorem d_Fil_drop_43 : decode prog_5_method_6_code 43 = .ok (.getfield 9, 3) := by decide +kernel
theorem d_Fil_drop_46 : decode prog_5_method_6_code 46 = .ok (.iload_n 3, 1) := by decide +kernel
theorem d_Fil_drop_47 : decode prog_5_method_6_code 47 = .ok (.iload 4, 2) := by decide +kernel
theorem d_Fil_drop_49 : decode prog_5_method_6_code 49 = .ok (.invokevirtual 117, 3) := by decide +kernel
theorem d_Fil_drop_52 : decode prog_5_method_6_code 52 = .ok (.invokevirtual 122, 3) := by decide +kernel
theorem d_Fil_drop_55 : decode prog_5_method_6_code 55 = .ok (.iinc 4 1, 3) := by decide +kernel
theorem d_Fil_drop_58 : decode prog_5_method_6_code 58 = .ok (.goto (-28), 3) := by decide +kernel
theorem d_Fil_drop_61 : decode prog_5_method_6_code 61 = .ok (.bipush 26, 2) := by decide +kernel
theorem d_Fil_drop_63 : decode prog_5_method_6_code 63 = .ok (.istore 4, 2) := by decide +kernel
theorem d_Fil_drop_65 : decode prog_5_method_6_code 65 = .ok (.iload 4, 2) := by decide +kernel
theorem d_Fil_drop_67 : decode prog_5_method_6_code 67 = .ok (.bipush 28, 2) := by decide +kernel
theorem d_Fil_drop_69 : decode prog_5_method_6_code 69 = .ok (.if_icmp .gt 23, 3) := by decide +kernel
theorem d_Fil_drop_72 : decode prog_5_method_6_code 72 = .ok (.aload_n 0, 1) := by decide +kernel
theorem d_Fil_drop_73 : decode prog_5_method_6_code 73 = .ok (.aload_n 0, 1) := by decide +kernel
theorem d_Fil_drop_74 : decode prog_5_method_6_code 74 = .ok (.getfield 9, 3) := by decide +kernel
theorem d_Fil_drop_77 : decode prog_5_method_6_code 77 = .ok (.iload_n 2, 1) := by decide +kernel
theorem d_Fil_drop_78 : decode prog_5_method_6_code 78 = .ok (.iload 4, 2) := by decide +kernel
theorem d_Fil_drop_80 : decode prog_5_method_6_code 80 = .ok (.invokevirtual 117, 3) := by decide +kernel
theorem d_Fil_drop_83 : decode prog_5_method_6_code 83 = .ok (.invokevirtual 122, 3) := by decide +kernel
theorem d_Fil_drop_86 : decode prog_5_method_6_code 86 = .ok (.iinc 4 1, 3) := by decide +kernel
theorem d_Fil_drop_89 : decode prog_5_method_6_code 89 = .ok (.goto (-24), 3) := by decide +kernel
theorem d_Fil_drop_92 : decode prog_5_method_6_code 92 = .ok (.aload_n 0, 1) := by decide +kernel
theorem d_Fil_drop_93 : decode prog_5_method_6_code 93 = .ok (.iload_n 1, 1) := by decide +kernel
theorem d_Fil_drop_94 : decode prog_5_method_6_code 94 = .ok (.invokevirtual 122, 3) := by decide +kernel
theorem d_Fil_drop_97 : decode prog_5_method_6_code 97 = .ok (.aload_n 0, 1) := by decide +kernel
theorem d_Fil_drop_98 : decode prog_5_method_6_code 98 = .ok (.getfield 15, 3) := by decide +kernel
theorem d_Fil_drop_101 : decode prog_5_method_6_code 101 = .ok (.iload_n 1, 1) := by decide +kernel
theorem d_Fil_drop_102 : decode prog_5_method_6_code 102 = .ok (.invokevirtual 125, 3) := by decide +kernel
theorem d_Fil_drop_105 : decode prog_5_method_6_code 105 = .ok (.return_, 1) := by decide +kernel
set_option maxHeartbeats 4000000 in
set_option maxRecDepth 100000 in
theorem v_Fil_drop_65 {p : Program} {l : Launch} {e : Env} {s : State} {m : MethodId} {args : Array Value} {below : List Frame} {meth : Method} {c : Code} {D : va_G} {ad : Nat → Nat} {ca : Nat → ClassId} {A : Nat → Prop} {FU : Nat} {q : St} (X : FX p s m meth c prog_5_method_6_code 5 none "FlashFiles$Files" D (tyF ca) A) : ∀ (n : Nat), ∀ (y1 y2 y4 : Int32) (g : St) (H : Heap) (locs : List Loc) (ls : Array Slot), va_P D cls (wF ad ca g) H → va_D A (wF ad ca g) → va_S A s.heap H locs → lv_has ls 5 [(0, .ref (ad 6)), (1, .int y1), (2, .int y2), (4, .int y4)] → Fil_drop_b65 FU n y1 y2 y4 g = some q → W p l e (rmN 5) s m args below meth c H locs 0 0 (MQ below (fxQv D (tyF ca) A (wF ad ca q)) args s 0 0 A) (F0 m 65 ls []) := by
  have hx := X.1
  have hb := X.2.1
  intro n
  induction n with
  | zero =>
    intro y1 y2 y4 g H locs ls hP hD hS hl h
    cases h
  | succ n ih =>
    intro y1 y2 y4 g H locs ls hP hD hS hl h
    have h := h
    rw [Fil_drop_b65.eq_2] at h
    refine lv_iload hx hb d_Fil_drop_65 (lv_at hl 3 rfl) ?_
    refine lv_bipush (v := 28) hx hb d_Fil_drop_67 (by decide) ?_
    refine lv_icmp_gt (tgt := 92) hx hb d_Fil_drop_69 (by decide) (fun hc => ?_) (fun hc => ?_)
    · have h := if_t hc h
      refine lv_aload_n hx hb d_Fil_drop_92 rfl (lv_at hl 0 rfl) ?_
      refine lv_iload_n hx hb d_Fil_drop_93 rfl (lv_at hl 1 rfl) ?_
      obtain ⟨p1, e1, h⟩ := bd_some h
      refine fx_v X (fx_runV (As := [.int y1]) X (m_Fil_dropWithData e1 _) hP hD kv_Fil_122 ⟨Nat.le_of_ble_eq_true rfl, Nat.le_of_ble_eq_true rfl⟩ 6 rfl rfl rfl hl.1 rfl (Nat.le_of_ble_eq_true rfl) d_Fil_drop_94) hD hS (fun H locs hP hD hS => ?_)
      refine lv_aload_n hx hb d_Fil_drop_97 rfl (lv_at hl 0 rfl) ?_
      refine gF_fil_table X hP d_Fil_drop_98 ?_
      refine lv_iload_n hx hb d_Fil_drop_101 rfl (lv_at hl 1 rfl) ?_
      obtain ⟨p2, e1, h⟩ := bd_some h
      refine fx_v X (fx_runV (As := [.int y1]) X (m_Tab_stir e1 _) hP hD kv_Fil_125 ⟨Nat.le_of_ble_eq_true rfl, Nat.le_of_ble_eq_true rfl⟩ 4 rfl rfl rfl hl.1 rfl (Nat.le_of_ble_eq_true rfl) d_Fil_drop_102) hD hS (fun H locs hP hD hS => ?_)
      cases h
      exact fx_vret X hP hD hS d_Fil_drop_105
    · have h := if_f hc h
      refine lv_aload_n hx hb d_Fil_drop_72 rfl (lv_at hl 0 rfl) ?_
      refine lv_aload_n hx hb d_Fil_drop_73 rfl (lv_at hl 0 rfl) ?_
      refine gF_fil_device X hP d_Fil_drop_74 ?_
      refine lv_iload_n hx hb d_Fil_drop_77 rfl (lv_at hl 2 rfl) ?_
      refine lv_iload hx hb d_Fil_drop_78 (lv_at hl 3 rfl) ?_
      obtain ⟨v3, e1, h⟩ := bd_some h
      refine fx_i X (fx_runV (As := [.int y2, .int y4]) X (m_Dev_word e1 _) hP hD kv_Fil_117 ⟨Nat.le_of_ble_eq_true rfl, Nat.le_of_ble_eq_true rfl⟩ 3 rfl rfl rfl hl.1 rfl (Nat.le_of_ble_eq_true rfl) d_Fil_drop_80) hD hS (fun H locs hP hD hS => ?_)
      obtain ⟨p4, e1, h⟩ := bd_some h
      refine fx_v X (fx_runV (As := [.int v3]) X (m_Fil_dropWithData e1 _) hP hD kv_Fil_122 ⟨Nat.le_of_ble_eq_true rfl, Nat.le_of_ble_eq_true rfl⟩ 6 rfl rfl rfl hl.1 rfl (Nat.le_of_ble_eq_true rfl) d_Fil_drop_83) hD hS (fun H locs hP hD hS => ?_)
      refine lv_iinc (k := 3) (v := (y4 + (1 : Int32))) hx hb d_Fil_drop_86 hl rfl (oi_1 _) (by decide) rfl (fun ls hl => ?_)
      have hl : lv_has ls 5 [(4, .int (y4 + (1 : Int32))), (0, .ref (ad 6)), (1, .int y1), (2, .int y2)] := hl
      refine lv_goto (tgt := 65) hx hb d_Fil_drop_89 (by decide) ?_
      exact ih _ _ _ _ _ _ _ hP hD hS (lv_sub hl [1, 2, 3, 0] rfl) h
set_option maxHeartbeats 4000000 in
set_option maxRecDepth 100000 in
theorem v_Fil_drop_61 {p : Program} {l : Launch} {e : Env} {s : State} {m : MethodId} {args : Array Value} {below : List Frame} {meth : Method} {c : Code} {D : va_G} {ad : Nat → Nat} {ca : Nat → ClassId} {A : Nat → Prop} {FU : Nat} {q : St} (X : FX p s m meth c prog_5_method_6_code 5 none "FlashFiles$Files" D (tyF ca) A) {y1 : Int32} {y2 : Int32} {g : St} {H : Heap} {locs : List Loc} {ls : Array Slot} (hP : va_P D cls (wF ad ca g) H) (hD : va_D A (wF ad ca g)) (hS : va_S A s.heap H locs) (hl : lv_has ls 5 [(0, .ref (ad 6)), (1, .int y1), (2, .int y2)]) (h : Fil_drop_b61 FU y1 y2 g = some q) : W p l e (rmN 5) s m args below meth c H locs 0 0 (MQ below (fxQv D (tyF ca) A (wF ad ca q)) args s 0 0 A) (F0 m 61 ls []) := by
  have hx := X.1
  have hb := X.2.1
  unfold Fil_drop_b61 at h
  refine lv_bipush (v := 26) hx hb d_Fil_drop_61 (by decide) ?_
  refine lv_istore hx hb d_Fil_drop_63 hl (by decide) rfl (fun ls hl => ?_)
  have hl : lv_has ls 5 [(4, .int (26 : Int32)), (0, .ref (ad 6)), (1, .int y1), (2, .int y2)] := hl
  exact v_Fil_drop_65 X  _ _ _ _ _ _ _ _ hP hD hS (lv_sub hl [1, 2, 3, 0] rfl) h
set_option maxHeartbeats 4000000 in
set_option maxRecDepth 100000 in
theorem v_Fil_drop_30 {p : Program} {l : Launch} {e : Env} {s : State} {m : MethodId} {args : Array Value} {below : List Frame} {meth : Method} {c : Code} {D : va_G} {ad : Nat → Nat} {ca : Nat → ClassId} {A : Nat → Prop} {FU : Nat} {q : St} (X : FX p s m meth c prog_5_method_6_code 5 none "FlashFiles$Files" D (tyF ca) A) : ∀ (n : Nat), ∀ (y1 y2 y3 y4 : Int32) (g : St) (H : Heap) (locs : List Loc) (ls : Array Slot), va_P D cls (wF ad ca g) H → va_D A (wF ad ca g) → va_S A s.heap H locs → lv_has ls 5 [(0, .ref (ad 6)), (1, .int y1), (2, .int y2), (3, .int y3), (4, .int y4)] → Fil_drop_b30 FU n y1 y2 y3 y4 g = some q → W p l e (rmN 5) s m args below meth c H locs 0 0 (MQ below (fxQv D (tyF ca) A (wF ad ca q)) args s 0 0 A) (F0 m 30 ls []) := by
  have hx := X.1
  have hb := X.2.1
  intro n
  induction n with
  | zero =>
    intro y1 y2 y3 y4 g H locs ls hP hD hS hl h
    cases h
  | succ n ih =>
    intro y1 y2 y3 y4 g H locs ls hP hD hS hl h
    have h := h
    rw [Fil_drop_b30.eq_2] at h
    refine lv_iload_n hx hb d_Fil_drop_30 rfl (lv_at hl 3 rfl) ?_
    refine lv_if_eq (tgt := 61) hx hb d_Fil_drop_31 (by decide) (fun hc => ?_) (fun hc => ?_)
    · have h := if_t hc h
      exact v_Fil_drop_61 X  hP hD hS (lv_sub hl [0, 1, 2] rfl) h
    · have h := if_f hc h
      refine lv_iload hx hb d_Fil_drop_34 (lv_at hl 4 rfl) ?_
      refine lv_bipush (v := 56) hx hb d_Fil_drop_36 (by decide) ?_
      refine lv_icmp_ge (tgt := 61) hx hb d_Fil_drop_38 (by decide) (fun hc => ?_) (fun hc => ?_)
      · have h := if_t hc h
        exact v_Fil_drop_61 X  hP hD hS (lv_sub hl [0, 1, 2] rfl) h
      · have h := if_f hc h
        refine lv_aload_n hx hb d_Fil_drop_41 rfl (lv_at hl 0 rfl) ?_
        refine lv_aload_n hx hb d_Fil_drop_42 rfl (lv_at hl 0 rfl) ?_
        refine gF_fil_device X hP d_Fil_drop_43 ?_
        refine lv_iload_n hx hb d_Fil_drop_46 rfl (lv_at hl 3 rfl) ?_
        refine lv_iload hx hb d_Fil_drop_47 (lv_at hl 4 rfl) ?_
        obtain ⟨v5, e1, h⟩ := bd_some h
        refine fx_i X (fx_runV (As := [.int y3, .int y4]) X (m_Dev_word e1 _) hP hD kv_Fil_117 ⟨Nat.le_of_ble_eq_true rfl, Nat.le_of_ble_eq_true rfl⟩ 3 rfl rfl rfl hl.1 rfl (Nat.le_of_ble_eq_true rfl) d_Fil_drop_49) hD hS (fun H locs hP hD hS => ?_)
        obtain ⟨p6, e1, h⟩ := bd_some h
        refine fx_v X (fx_runV (As := [.int v5]) X (m_Fil_dropWithData e1 _) hP hD kv_Fil_122 ⟨Nat.le_of_ble_eq_true rfl, Nat.le_of_ble_eq_true rfl⟩ 6 rfl rfl rfl hl.1 rfl (Nat.le_of_ble_eq_true rfl) d_Fil_drop_52) hD hS (fun H locs hP hD hS => ?_)
        refine lv_iinc (k := 4) (v := (y4 + (1 : Int32))) hx hb d_Fil_drop_55 hl rfl (oi_1 _) (by decide) rfl (fun ls hl => ?_)
        have hl : lv_has ls 5 [(4, .int (y4 + (1 : Int32))), (0, .ref (ad 6)), (1, .int y1), (2, .int y2), (3, .int y3)] := hl
        refine lv_goto (tgt := 30) hx hb d_Fil_drop_58 (by decide) ?_
        exact ih _ _ _ _ _ _ _ _ hP hD hS (lv_sub hl [1, 2, 3, 4, 0] rfl) h
set_option maxHeartbeats 4000000 in
set_option maxRecDepth 100000 in
theorem m_Fil_drop {l : Launch} {D : va_G} {ad : Nat → Nat} {ca : Nat → ClassId} {FU : Nat} {x1 : Int32} {g : St} {q : St} (h : Fil_drop FU x1 g = some q) : CV l ⟨"FlashFiles$Files", "drop", "(I)V"⟩ prog_5_method_6_code 5 5 D (tyF ca) (wF ad ca g) [.ref (ad 6), .int x1] (wF ad ca q) := by
  intro sz
  refine Met.fx (Qc := fun A => fxQv D (tyF ca) A (wF ad ca q)) (by decide) (Nat.le_of_ble_eq_true rfl) ?_
  intro p e s m below meth c A ls X hP hD hl
  have hl : lv_has ls 5 [(0, .ref (ad 6)), (1, .int x1)] := hl
  have hS : va_S A s.heap s.heap [] := va_S.rf
  have hx := X.1
  have hb := X.2.1
  unfold Fil_drop at h
  refine lv_aload_n hx hb d_Fil_drop_0 rfl (lv_at hl 0 rfl) ?_
  refine gF_fil_table X hP d_Fil_drop_1 ?_
  refine lv_iload_n hx hb d_Fil_drop_4 rfl (lv_at hl 1 rfl) ?_
  obtain ⟨v7, e1, h⟩ := bd_some h
  refine fx_i X (fx_runV (As := [.int x1]) X (m_Tab_placeOf e1 _) hP hD kv_Fil_114 ⟨Nat.le_of_ble_eq_true rfl, Nat.le_of_ble_eq_true rfl⟩ 4 rfl rfl rfl hl.1 rfl (Nat.le_of_ble_eq_true rfl) d_Fil_drop_5) hD hS (fun H locs hP hD hS => ?_)
  refine lv_istore_n hx hb d_Fil_drop_8 rfl hl (by decide) rfl (fun ls hl => ?_)
  have hl : lv_has ls 5 [(2, .int v7), (0, .ref (ad 6)), (1, .int x1)] := hl
  refine lv_aload_n hx hb d_Fil_drop_9 rfl (lv_at hl 1 rfl) ?_
  refine gF_fil_table X hP d_Fil_drop_10 ?_
  refine lv_aload_n hx hb d_Fil_drop_13 rfl (lv_at hl 1 rfl) ?_
  refine gF_fil_device X hP d_Fil_drop_14 ?_
  refine lv_iload_n hx hb d_Fil_drop_17 rfl (lv_at hl 0 rfl) ?_
  refine lv_bipush (v := 28) hx hb d_Fil_drop_18 (by decide) ?_
  obtain ⟨v8, e1, h⟩ := bd_some h
  refine fx_i X (fx_runV (As := [.int v7, .int (28 : Int32)]) X (m_Dev_word e1 _) hP hD kv_Fil_117 ⟨Nat.le_of_ble_eq_true rfl, Nat.le_of_ble_eq_true rfl⟩ 3 rfl rfl rfl hl.1 rfl (Nat.le_of_ble_eq_true rfl) d_Fil_drop_20) hD hS (fun H locs hP hD hS => ?_)
  obtain ⟨v9, e1, h⟩ := bd_some h
  refine fx_i X (fx_runV (As := [.int v8]) X (m_Tab_placeOf e1 _) hP hD kv_Fil_114 ⟨Nat.le_of_ble_eq_true rfl, Nat.le_of_ble_eq_true rfl⟩ 4 rfl rfl rfl hl.1 rfl (Nat.le_of_ble_eq_true rfl) d_Fil_drop_23) hD hS (fun H locs hP hD hS => ?_)
  refine lv_istore_n hx hb d_Fil_drop_26 rfl hl (by decide) rfl (fun ls hl => ?_)
  have hl : lv_has ls 5 [(3, .int v9), (2, .int v7), (0, .ref (ad 6)), (1, .int x1)] := hl
  refine lv_iconst (v := 0) hx hb d_Fil_drop_27 (by decide) ?_
  refine lv_istore hx hb d_Fil_drop_28 hl (by decide) rfl (fun ls hl => ?_)
  have hl : lv_has ls 5 [(4, .int (0 : Int32)), (3, .int v9), (2, .int v7), (0, .ref (ad 6)), (1, .int x1)] := hl
  exact v_Fil_drop_30 X  _ _ _ _ _ _ _ _ _ hP hD hS (lv_sub hl [3, 4, 2, 1, 0] rfl) h
theorem d_Fil_fillBlock_0 : decode prog_5_method_20_code 0 = .ok (.aload_n 0, 1) := by decide +kernel
theorem d_Fil_fillBlock_1 : decode prog_5_method_20_code 1 = .ok (.iload_n 1, 1) := by decide +kernel
theorem d_Fil_fillBlock_2 : decode prog_5_method_20_code 2 = .ok (.invokevirtual 92, 3) := by decide +kernel
theorem d_Fil_fillBlock_5 : decode prog_5_method_20_code 5 = .ok (.istore 5, 2) := by decide +kernel
theorem d_Fil_fillBlock_7 : decode prog_5_method_20_code 7 = .ok (.aload_n 0, 1) := by decide +kernel
theorem d_Fil_fillBlock_8 : decode prog_5_method_20_code 8 = .ok (.iload 5, 2) := by decide +kernel
theorem d_Fil_fillBlock_10 : decode prog_5_method_20_code 10 = .ok (.invokevirtual 95, 3) := by decide +kernel
theorem d_Fil_fillBlock_13 : decode prog_5_method_20_code 13 = .ok (.aload_n 0, 1) := by decide +kernel
theorem d_Fil_fillBlock_14 : decode prog_5_method_20_code 14 = .ok (.getfield 19, 3) := by decide +kernel
theorem d_Fil_fillBlock_17 : decode prog_5_method_20_code 17 = .ok (.iload 5, 2) := by decide +kernel
theorem d_Fil_fillBlock_19 : decode prog_5_method_20_code 19 = .ok (.invokevirtual 134, 3) := by decide +kernel
theorem d_Fil_fillBlock_22 : decode prog_5_method_20_code 22 = .ok (.iload 5, 2) := by decide +kernel
theorem d_Fil_fillBlock_24 : decode prog_5_method_20_code 24 = .ok (.ifCond .ne 13, 3) := by decide +kernel
theorem d_Fil_fillBlock_27 : decode prog_5_method_20_code 27 = .ok (.aload_n 0, 1) := by decide +kernel
theorem d_Fil_fillBlock_28 : decode prog_5_method_20_code 28 = .ok (.getfield 23, 3) := by decide +kernel
theorem d_Fil_fillBlock_31 : decode prog_5_method_20_code 31 = .ok (.iconst 4, 1) := by decide +kernel
theorem d_Fil_fillBlock_32 : decode prog_5_method_20_code 32 = .ok (.dup2, 1) := by decide +kernel
theorem d_Fil_fillBlock_33 : decode prog_5_method_20_code 33 = .ok (.iaload, 1) := by decide +kernel
theorem d_Fil_fillBlock_34 : decode prog_5_method_20_code 34 = .ok (.iconst 1, 1) := by decide +kernel
theorem d_Fil_fillBlock_35 : decode prog_5_method_20_code 35 = .ok (.iadd, 1) := by decide +kernel
theorem d_Fil_fillBlock_36 : decode prog_5_method_20_code 36 = .ok (.iastore, 1) := by decide +kernel
theorem d_Fil_fillBlock_37 : decode prog_5_method_20_code 37 = .ok (.iload_n 1, 1) := by decide +kernel
theorem d_Fil_fillBlock_38 : decode prog_5_method_20_code 38 = .ok (.sipush 256, 3) := by decide +kernel
theorem d_Fil_fillBlock_41 : decode prog_5_method_20_code 41 = .ok (.imul, 1) := by decide +kernel
theorem d_Fil_fillBlock_42 : decode prog_5_method_20_code 42 = .ok (.istore 6, 2) := by decide +kernel
theorem d_Fil_fillBlock_44 : decode prog_5_method_20_code 44 = .ok (.iload_n 2, 1) := by decide +kernel
theorem d_Fil_fillBlock_45 : decode prog_5_method_20_code 45 = .ok (.iload_n 3, 1) := by decide +kernel
theorem d_Fil_fillBlock_46 : decode prog_5_method_20_code 46 = .ok (.iadd, 1) := by decide +kernel
theorem d_Fil_fillBlock_47 : decode prog_5_method_20_code 47 = .ok (.iload 6, 2) := by decide +kernel
theorem d_Fil_fillBlock_49 : decode prog_5_method_20_code 49 = .ok (.sipush 256, 3) := by decide +kernel
theorem d_Fil_fillBlock_52 : decode prog_5_method_20_code 52 = .ok (.iadd, 1) := by decide +kernel
theorem d_Fil_fillBlock_53 : decode prog_5_method_20_code 53 = .ok (.invokestatic 82, 3) := by decide +kernel
theorem d_Fil_fillBlock_56 : decode prog_5_method_20_code 56 = .ok (.istore 7, 2) := by decide +kernel
theorem d_Fil_fillBlock_58 : decode prog_5_method_20_code 58 = .ok (.iload_n 2, 1) := by decide +kernel
theorem d_Fil_fillBlock_59 : decode prog_5_method_20_code 59 = .ok (.iload 6, 2) := by decide +kernel
theorem d_Fil_fillBlock_61 : decode prog_5_method_20_code 61 = .ok (.invokestatic 70, 3) := by decide +kernel
theorem d_Fil_fillBlock_64 : decode prog_5_method_20_code 64 = .ok (.istore 8, 2) := by decide +kernel
theorem d_Fil_fillBlock_66 : decode prog_5_method_20_code 66 = .ok (.iload 8, 2) := by decide +kernel
theorem d_Fil_fillBlock_68 : decode prog_5_method_20_code 68 = .ok (.iload 7, 2) := by decide +kernel
theorem d_Fil_fillBlock_70 : decode prog_5_method_20_code 70 = .ok (.if_icmp .ge 31, 3) := by decide +kernel
theorem d_Fil_fillBlock_73 : decode prog_5_method_20_code 73 = .ok (.aload_n 0, 1) := by decide +kernel
theorem d_Fil_fillBlock_74 : decode prog_5_method_20_code 74 = .ok (.getfield 33, 3) := by decide +kernel
theorem d_Fil_fillBlock_77 : decode prog_5_method_20_code 77 = .ok (.iconst 0, 1) := by decide +kernel
theorem d_Fil_fillBlock_78 : decode prog_5_method_20_code 78 = .ok (.iload 8, 2) := by decide +kernel
theorem d_Fil_fillBlock_80 : decode prog_5_method_20_code 80 = .ok (.iload 6, 2) := by decide +kernel
theorem d_Fil_fillBlock_82 : decode prog_5_method_20_code 82 = .ok (.isub, 1) := by decide +kernel
theorem d_Fil_fillBlock_83 : decode prog_5_method_20_code 83 = .ok (.aload 4, 2) := by decide +kernel
theorem d_Fil_fillBlock_85 : decode prog_5_method_20_code 85 = .ok (.iload 8, 2) := by decide +kernel
theorem d_Fil_fillBlock_87 : decode prog_5_method_20_code 87 = .ok (.iload_n 2, 1) := by decide +kernel
theorem d_Fil_fillBlock_88 : decode prog_5_method_20_code 88 = .ok (.isub, 1) := by decide +kernel
theorem d_Fil_fillBlock_89 : decode prog_5_method_20_code 89 = .ok (.invokevirtual 40, 3) := by decide +kernel
theorem d_Fil_fillBlock_92 : decode prog_5_method_20_code 92 = .ok (.invokestatic 46, 3) := by decide +kernel
theorem d_Fil_fillBlock_95 : decode prog_5_method_20_code 95 = .ok (.iinc 8 1, 3) := by decide +kernel
theorem d_Fil_fillBlock_98 : decode prog_5_method_20_code 98 = .ok (.goto (-32), 3) := by decide +kernel
theorem d_Fil_fillBlock_101 : decode prog_5_method_20_code 101 = .ok (.return_, 1) := by decide +kernel
set_option maxHeartbeats 4000000 in
set_option maxRecDepth 100000 in
theorem v_Fil_fillBlock_66_0 {p : Program} {l : Launch} {e : Env} {s : State} {m : MethodId} {args : Array Value} {below : List Frame} {meth : Method} {c : Code} {D : va_G} {ad : Nat → Nat} {ca : Nat → ClassId} {A : Nat → Prop} {FU : Nat} {q : St} (X : FX p s m meth c prog_5_method_20_code 9 none "FlashFiles$Files" D (tyF ca) A) : ∀ (n : Nat), ∀ (y2 y6 y7 y8 : Int32) (g : St) (H : Heap) (locs : List Loc) (ls : Array Slot), va_P D cls (wF ad ca g) H → va_D A (wF ad ca g) → va_S A s.heap H locs → lv_has ls 9 [(0, .ref (ad 6)), (2, .int y2), (4, .ref (ad 1)), (6, .int y6), (7, .int y7), (8, .int y8)] → Fil_fillBlock_b66 FU 0 n y2 y6 y7 y8 g = some q → W p l e (rmN 3) s m args below meth c H locs 0 0 (MQ below (fxQv D (tyF ca) A (wF ad ca q)) args s 0 0 A) (F0 m 66 ls []) := by
  have hx := X.1
  have hb := X.2.1
  intro n
  induction n with
  | zero =>
    intro y2 y6 y7 y8 g H locs ls hP hD hS hl h
    cases h
  | succ n ih =>
    intro y2 y6 y7 y8 g H locs ls hP hD hS hl h
    have h := h
    rw [Fil_fillBlock_b66.eq_2] at h
    refine lv_iload hx hb d_Fil_fillBlock_66 (lv_at hl 5 rfl) ?_
    refine lv_iload hx hb d_Fil_fillBlock_68 (lv_at hl 4 rfl) ?_
    refine lv_icmp_ge (tgt := 101) hx hb d_Fil_fillBlock_70 (by decide) (fun hc => ?_) (fun hc => ?_)
    · have h := if_t hc h
      cases h
      exact fx_vret X hP hD hS d_Fil_fillBlock_101
    · have h := if_f hc h
      refine lv_aload_n hx hb d_Fil_fillBlock_73 rfl (lv_at hl 0 rfl) ?_
      refine gF_fil_block X hP d_Fil_fillBlock_74 ?_
      refine lv_iconst (v := 0) hx hb d_Fil_fillBlock_77 (by decide) ?_
      refine lv_iload hx hb d_Fil_fillBlock_78 (lv_at hl 5 rfl) ?_
      refine lv_iload hx hb d_Fil_fillBlock_80 (lv_at hl 3 rfl) ?_
      refine lv_isub hx hb d_Fil_fillBlock_82 ?_
      refine lv_aload hx hb d_Fil_fillBlock_83 (lv_at hl 2 rfl) ?_
      refine lv_iload hx hb d_Fil_fillBlock_85 (lv_at hl 5 rfl) ?_
      refine lv_iload_n hx hb d_Fil_fillBlock_87 rfl (lv_at hl 1 rfl) ?_
      refine lv_isub hx hb d_Fil_fillBlock_88 ?_
      obtain ⟨v1, e1, h⟩ := bd_some h
      refine fx_i X (fx_runV (As := [.int (y8 - y2)]) X (m_Row_at_0 e1 _) hP hD kv_Fil_40 ⟨Nat.le_of_ble_eq_true rfl, Nat.le_of_ble_eq_true rfl⟩ 1 rfl rfl rfl hl.1 rfl (Nat.le_of_ble_eq_true rfl) d_Fil_fillBlock_89) hD hS (fun H locs hP hD hS => ?_)
      obtain ⟨p2, e1, h⟩ := bd_some h
      refine fx_v X (fx_runN X (m_FF_putByte_16 e1 _) (As := [.ref (ad 27), .int (0 : Int32), .int (y8 - y6), .int v1]) hP hD kn_Fil_46 ⟨Nat.le_of_ble_eq_true rfl, Nat.le_of_ble_eq_true rfl⟩ rfl hl.1 rfl (Nat.le_of_ble_eq_true rfl) d_Fil_fillBlock_92) hD hS (fun H locs hP hD hS => ?_)
      refine lv_iinc (k := 5) (v := (y8 + (1 : Int32))) hx hb d_Fil_fillBlock_95 hl rfl (oi_1 _) (by decide) rfl (fun ls hl => ?_)
      have hl : lv_has ls 9 [(8, .int (y8 + (1 : Int32))), (0, .ref (ad 6)), (2, .int y2), (4, .ref (ad 1)), (6, .int y6), (7, .int y7)] := hl
      refine lv_goto (tgt := 66) hx hb d_Fil_fillBlock_98 (by decide) ?_
      exact ih _ _ _ _ _ _ _ _ hP hD hS (lv_sub hl [1, 2, 3, 4, 5, 0] rfl) h
set_option maxHeartbeats 4000000 in
set_option maxRecDepth 100000 in
theorem v_Fil_fillBlock_37_0 {p : Program} {l : Launch} {e : Env} {s : State} {m : MethodId} {args : Array Value} {below : List Frame} {meth : Method} {c : Code} {D : va_G} {ad : Nat → Nat} {ca : Nat → ClassId} {A : Nat → Prop} {FU : Nat} {q : St} (X : FX p s m meth c prog_5_method_20_code 9 none "FlashFiles$Files" D (tyF ca) A) {y1 : Int32} {y2 : Int32} {y3 : Int32} {g : St} {H : Heap} {locs : List Loc} {ls : Array Slot} (hP : va_P D cls (wF ad ca g) H) (hD : va_D A (wF ad ca g)) (hS : va_S A s.heap H locs) (hl : lv_has ls 9 [(0, .ref (ad 6)), (1, .int y1), (2, .int y2), (3, .int y3), (4, .ref (ad 1))]) (h : Fil_fillBlock_b37 FU 0 y1 y2 y3 g = some q) : W p l e (rmN 3) s m args below meth c H locs 0 0 (MQ below (fxQv D (tyF ca) A (wF ad ca q)) args s 0 0 A) (F0 m 37 ls []) := by
  have hx := X.1
  have hb := X.2.1
  unfold Fil_fillBlock_b37 at h
  refine lv_iload_n hx hb d_Fil_fillBlock_37 rfl (lv_at hl 1 rfl) ?_
  refine lv_sipush (v := 256) hx hb d_Fil_fillBlock_38 (by decide) ?_
  refine lv_imul hx hb d_Fil_fillBlock_41 ?_
  refine lv_istore hx hb d_Fil_fillBlock_42 hl (by decide) rfl (fun ls hl => ?_)
  have hl : lv_has ls 9 [(6, .int (y1 * (256 : Int32))), (0, .ref (ad 6)), (1, .int y1), (2, .int y2), (3, .int y3), (4, .ref (ad 1))] := hl
  refine lv_iload_n hx hb d_Fil_fillBlock_44 rfl (lv_at hl 3 rfl) ?_
  refine lv_iload_n hx hb d_Fil_fillBlock_45 rfl (lv_at hl 4 rfl) ?_
  refine lv_iadd hx hb d_Fil_fillBlock_46 ?_
  refine lv_iload hx hb d_Fil_fillBlock_47 (lv_at hl 0 rfl) ?_
  refine lv_sipush (v := 256) hx hb d_Fil_fillBlock_49 (by decide) ?_
  refine lv_iadd hx hb d_Fil_fillBlock_52 ?_
  refine va_mmin hx hb (X.2.2.1.trans hl.1.symm) X.2.2.2.2.2.1 (X.2.2.2.2.2.2.1.use q6_70) (X.2.2.2.2.2.2.1.use q2_193) (X.2.2.2.2.2.2.1.use q1_16) (X.2.2.2.2.2.2.1.use math_min) (Nat.le_of_ble_eq_true rfl) (Nat.le_of_ble_eq_true rfl) (Nat.zero_le _) (Nat.zero_le _) d_Fil_fillBlock_53 ?_
  refine lv_istore hx hb d_Fil_fillBlock_56 hl (by decide) rfl (fun ls hl => ?_)
  have hl : lv_has ls 9 [(7, .int (if ((y1 * (256 : Int32)) + (256 : Int32)) < (y2 + y3) then ((y1 * (256 : Int32)) + (256 : Int32)) else (y2 + y3))), (6, .int (y1 * (256 : Int32))), (0, .ref (ad 6)), (1, .int y1), (2, .int y2), (3, .int y3), (4, .ref (ad 1))] := hl
  refine lv_iload_n hx hb d_Fil_fillBlock_58 rfl (lv_at hl 4 rfl) ?_
  refine lv_iload hx hb d_Fil_fillBlock_59 (lv_at hl 1 rfl) ?_
  refine va_mmax hx hb (X.2.2.1.trans hl.1.symm) X.2.2.2.2.2.1 (X.2.2.2.2.2.2.1.use q6_71) (X.2.2.2.2.2.2.1.use q2_190) (X.2.2.2.2.2.2.1.use q1_16) (X.2.2.2.2.2.2.1.use math_max) (Nat.le_of_ble_eq_true rfl) (Nat.le_of_ble_eq_true rfl) (Nat.zero_le _) (Nat.zero_le _) d_Fil_fillBlock_61 ?_
  refine lv_istore hx hb d_Fil_fillBlock_64 hl (by decide) rfl (fun ls hl => ?_)
  have hl : lv_has ls 9 [(8, .int (if y2 < (y1 * (256 : Int32)) then (y1 * (256 : Int32)) else y2)), (7, .int (if ((y1 * (256 : Int32)) + (256 : Int32)) < (y2 + y3) then ((y1 * (256 : Int32)) + (256 : Int32)) else (y2 + y3))), (6, .int (y1 * (256 : Int32))), (0, .ref (ad 6)), (1, .int y1), (2, .int y2), (3, .int y3), (4, .ref (ad 1))] := hl
  exact v_Fil_fillBlock_66_0 X  _ _ _ _ _ _ _ _ _ hP hD hS (lv_sub hl [3, 5, 7, 2, 1, 0] rfl) h
set_option maxHeartbeats 4000000 in
set_option maxRecDepth 100000 in
theorem m_Fil_fillBlock_0 {l : Launch} {D : va_G} {ad : Nat → Nat} {ca : Nat → ClassId} {FU : Nat} {x1 : Int32} {x2 : Int32} {x3 : Int32} {g : St} {q : St} (h : Fil_fillBlock FU 0 x1 x2 x3 g = some q) : CV l ⟨"FlashFiles$Files", "fillBlock", "(IIILFlashFiles$Row;)V"⟩ prog_5_method_20_code 9 3 D (tyF ca) (wF ad ca g) [.ref (ad 6), .int x1, .int x2, .int x3, .ref (ad 1)] (wF ad ca q) := by
  intro sz
  refine Met.fx (Qc := fun A => fxQv D (tyF ca) A (wF ad ca q)) (by decide) (Nat.le_of_ble_eq_true rfl) ?_
  intro p e s m below meth c A ls X hP hD hl
  have hl : lv_has ls 9 [(0, .ref (ad 6)), (1, .int x1), (2, .int x2), (3, .int x3), (4, .ref (ad 1))] := hl
  have hS : va_S A s.heap s.heap [] := va_S.rf
  have hx := X.1
  have hb := X.2.1
  unfold Fil_fillBlock at h
  refine lv_aload_n hx hb d_Fil_fillBlock_0 rfl (lv_at hl 0 rfl) ?_
  refine lv_iload_n hx hb d_Fil_fillBlock_1 rfl (lv_at hl 1 rfl) ?_
  obtain ⟨v3, e1, h⟩ := bd_some h
  refine fx_i X (fx_runV (As := [.int x1]) X (m_Fil_placeOf e1 _) hP hD kv_Fil_92 ⟨Nat.le_of_ble_eq_true rfl, Nat.le_of_ble_eq_true rfl⟩ 6 rfl rfl rfl hl.1 rfl (Nat.le_of_ble_eq_true rfl) d_Fil_fillBlock_2) hD hS (fun H locs hP hD hS => ?_)
  refine lv_istore hx hb d_Fil_fillBlock_5 hl (by decide) rfl (fun ls hl => ?_)
  have hl : lv_has ls 9 [(5, .int v3), (0, .ref (ad 6)), (1, .int x1), (2, .int x2), (3, .int x3), (4, .ref (ad 1))] := hl
  refine lv_aload_n hx hb d_Fil_fillBlock_7 rfl (lv_at hl 1 rfl) ?_
  refine lv_iload hx hb d_Fil_fillBlock_8 (lv_at hl 0 rfl) ?_
  obtain ⟨p4, e1, h⟩ := bd_some h
  refine fx_v X (fx_runV (As := [.int v3]) X (m_Fil_loadBlock e1 _) hP hD kv_Fil_95 ⟨Nat.le_of_ble_eq_true rfl, Nat.le_of_ble_eq_true rfl⟩ 6 rfl rfl rfl hl.1 rfl (Nat.le_of_ble_eq_true rfl) d_Fil_fillBlock_10) hD hS (fun H locs hP hD hS => ?_)
  refine lv_aload_n hx hb d_Fil_fillBlock_13 rfl (lv_at hl 1 rfl) ?_
  refine gF_fil_log X hP d_Fil_fillBlock_14 ?_
  refine lv_iload hx hb d_Fil_fillBlock_17 (lv_at hl 0 rfl) ?_
  obtain ⟨p5, e1, h⟩ := bd_some h
  refine fx_v X (fx_runV (As := [.int v3]) X (m_Log_drop e1 _) hP hD kv_Fil_134 ⟨Nat.le_of_ble_eq_true rfl, Nat.le_of_ble_eq_true rfl⟩ 5 rfl rfl rfl hl.1 rfl (Nat.le_of_ble_eq_true rfl) d_Fil_fillBlock_19) hD hS (fun H locs hP hD hS => ?_)
  refine lv_iload hx hb d_Fil_fillBlock_22 (lv_at hl 0 rfl) ?_
  refine lv_if_ne (tgt := 37) hx hb d_Fil_fillBlock_24 (by decide) (fun hc => ?_) (fun hc => ?_)
  · have h := if_f hc h
    exact v_Fil_fillBlock_37_0 X  hP hD hS (lv_sub hl [1, 2, 3, 4, 5] rfl) h
  · have h := if_t hc h
    refine lv_aload_n hx hb d_Fil_fillBlock_27 rfl (lv_at hl 1 rfl) ?_
    refine gF_fil_inode X hP d_Fil_fillBlock_28 ?_
    refine lv_iconst (v := 4) hx hb d_Fil_fillBlock_31 (by decide) ?_
    refine lv_dup2_11 hx hb d_Fil_fillBlock_32 rfl rfl ?_
    obtain ⟨v6, e1, h⟩ := bd_some h
    refine rF_13 X hP e1 d_Fil_fillBlock_33 ?_
    refine lv_iconst (v := 1) hx hb d_Fil_fillBlock_34 (by decide) ?_
    refine lv_iadd hx hb d_Fil_fillBlock_35 ?_
    obtain ⟨g7, e1, h⟩ := bd_some h
    refine sF_13 X hP hD hS e1 d_Fil_fillBlock_36 (fun H locs hP hD hS => ?_)
    exact v_Fil_fillBlock_37_0 X  hP hD hS (lv_sub hl [1, 2, 3, 4, 5] rfl) h
theorem d_Fil_putBytes_0 : decode prog_5_method_2_code 0 = .ok (.aload_n 0, 1) := by decide +kernel
theorem d_Fil_putBytes_1 : decode prog_5_method_2_code 1 = .ok (.iload_n 1, 1) := by decide +kernel
theorem d_Fil_putBytes_2 : decode prog_5_method_2_code 2 = .ok (.invokevirtual 36, 3) := by decide +kernel
theorem d_Fil_putBytes_5 : decode prog_5_method_2_code 5 = .ok (.aload_n 0, 1) := by decide +kernel
theorem d_Fil_putBytes_6 : decode prog_5_method_2_code 6 = .ok (.getfield 23, 3) := by decide +kernel
theorem d_Fil_putBytes_9 : decode prog_5_method_2_code 9 = .ok (.iconst 3, 1) := by decide +kernel
theorem d_Fil_putBytes_10 : decode prog_5_method_2_code 10 = .ok (.iaload, 1) := by decide +kernel
theorem d_Fil_putBytes_11 : decode prog_5_method_2_code 11 = .ok (.iconst 1, 1) := by decide +kernel
theorem d_Fil_putBytes_12 : decode prog_5_method_2_code 12 = .ok (.if_icmp .ne 49, 3) := by decide +kernel
theorem d_Fil_putBytes_15 : decode prog_5_method_2_code 15 = .ok (.iload_n 2, 1) := by decide +kernel
theorem d_Fil_putBytes_16 : decode prog_5_method_2_code 16 = .ok (.iload_n 3, 1) := by decide +kernel
theorem d_Fil_putBytes_17 : decode prog_5_method_2_code 17 = .ok (.iadd, 1) := by decide +kernel
theorem d_Fil_putBytes_18 : decode prog_5_method_2_code 18 = .ok (.bipush 96, 2) := by decide +kernel
theorem d_Fil_putBytes_20 : decode prog_5_method_2_code 20 = .ok (.if_icmp .gt 41, 3) := by decide +kernel
theorem d_Fil_putBytes_23 : decode prog_5_method_2_code 23 = .ok (.iconst 0, 1) := by decide +kernel
theorem d_Fil_putBytes_24 : decode prog_5_method_2_code 24 = .ok (.istore 5, 2) := by decide +kernel
theorem d_Fil_putBytes_26 : decode prog_5_method_2_code 26 = .ok (.iload 5, 2) := by decide +kernel
theorem d_Fil_putBytes_28 : decode prog_5_method_2_code 28 = .ok (.iload_n 3, 1) := by decide +kernel
theorem d_Fil_putBytes_29 : decode prog_5_method_2_code 29 = .ok (.if_icmp .ge 29, 3) := by decide +kernel
theorem d_Fil_putBytes_32 : decode prog_5_method_2_code 32 = .ok (.aload_n 0, 1) := by decide +kernel
theorem d_Fil_putBytes_33 : decode prog_5_method_2_code 33 = .ok (.getfield 23, 3) := by decide +kernel
theorem d_Fil_putBytes_36 : decode prog_5_method_2_code 36 = .ok (.bipush 30, 2) := by decide +kernel
theorem d_Fil_putBytes_38 : decode prog_5_method_2_code 38 = .ok (.iload_n 2, 1) := by decide +kernel
theorem d_Fil_putBytes_39 : decode prog_5_method_2_code 39 = .ok (.iload 5, 2) := by decide +kernel
theorem d_Fil_putBytes_41 : decode prog_5_method_2_code 41 = .ok (.iadd, 1) := by decide +kernel
theorem d_Fil_putBytes_42 : decode prog_5_method_2_code 42 = .ok (.aload 4, 2) := by decide +kernel
theorem d_Fil_putBytes_44 : decode prog_5_method_2_code 44 = .ok (.iload 5, 2) := by decide +kernel
theorem d_Fil_putBytes_46 : decode prog_5_method_2_code 46 = .ok (.invokevirtual 40, 3) := by decide +kernel
theorem d_Fil_putBytes_49 : decode prog_5_method_2_code 49 = .ok (.invokestatic 46, 3) := by decide +kernel
theorem d_Fil_putBytes_52 : decode prog_5_method_2_code 52 = .ok (.iinc 5 1, 3) := by decide +kernel
theorem d_Fil_putBytes_55 : decode prog_5_method_2_code 55 = .ok (.goto (-29), 3) := by decide +kernel
theorem d_Fil_putBytes_58 : decode prog_5_method_2_code 58 = .ok (.goto 81, 3) := by decide +kernel
theorem d_Fil_putBytes_61 : decode prog_5_method_2_code 61 = .ok (.aload_n 0, 1) := by decide +kernel
theorem d_Fil_putBytes_62 : decode prog_5_method_2_code 62 = .ok (.getfield 23, 3) := by decide +kernel
theorem d_Fil_putBytes_65 : decode prog_5_method_2_code 65 = .ok (.iconst 3, 1) := by decide +kernel
theorem d_Fil_putBytes_66 : decode prog_5_method_2_code 66 = .ok (.iaload, 1) := by decide +kernel
theorem d_Fil_putBytes_67 : decode prog_5_method_2_code 67 = .ok (.iconst 1, 1) := by decide +kernel
theorem d_Fil_putBytes_68 : decode prog_5_method_2_code 68 = .ok (.if_icmp .ne 7, 3) := by decide +kernel
theorem d_Fil_putBytes_71 : decode prog_5_method_2_code 71 = .ok (.aload_n 0, 1) := by decide +kernel
theorem d_Fil_putBytes_72 : decode prog_5_method_2_code 72 = .ok (.invokevirtual 50, 3) := by decide +kernel
theorem d_Fil_putBytes_75 : decode prog_5_method_2_code 75 = .ok (.iload_n 2, 1) := by decide +kernel
theorem d_Fil_putBytes_76 : decode prog_5_method_2_code 76 = .ok (.iload_n 3, 1) := by decide +kernel
theorem d_Fil_putBytes_77 : decode prog_5_method_2_code 77 = .ok (.iadd, 1) := by decide +kernel
theorem d_Fil_putBytes_78 : decode prog_5_method_2_code 78 = .ok (.iconst 1, 1) := by decide +kernel
theorem d_Fil_putBytes_79 : decode prog_5_method_2_code 79 = .ok (.isub, 1) := by decide +kernel
theorem d_Fil_putBytes_80 : decode prog_5_method_2_code 80 = .ok (.sipush 256, 3) := by decide +kernel
theorem d_Fil_putBytes_83 : decode prog_5_method_2_code 83 = .ok (.idiv, 1) := by decide +kernel
theorem d_Fil_putBytes_84 : decode prog_5_method_2_code 84 = .ok (.istore 5, 2) := by decide +kernel
theorem d_Fil_putBytes_86 : decode prog_5_method_2_code 86 = .ok (.iload_n 2, 1) := by decide +kernel
theorem d_Fil_putBytes_87 : decode prog_5_method_2_code 87 = .ok (.sipush 256, 3) := by decide +kernel
theorem d_Fil_putBytes_90 : decode prog_5_method_2_code 90 = .ok (.idiv, 1) := by decide +kernel
theorem d_Fil_putBytes_91 : decode prog_5_method_2_code 91 = .ok (.istore 6, 2) := by decide +kernel
theorem d_Fil_putBytes_93 : decode prog_5_method_2_code 93 = .ok (.iload 6, 2) := by decide +kernel
theorem d_Fil_putBytes_95 : decode prog_5_method_2_code 95 = .ok (.iload 5, 2) := by decide +kernel
theorem d_Fil_putBytes_97 : decode prog_5_method_2_code 97 = .ok (.if_icmp .gt 42, 3) := by decide +kernel
theorem d_Fil_putBytes_100 : decode prog_5_method_2_code 100 = .ok (.aload_n 0, 1) := by decide +kernel
theorem d_Fil_putBytes_101 : decode prog_5_method_2_code 101 = .ok (.iload 6, 2) := by decide +kernel
theorem d_Fil_putBytes_103 : decode prog_5_method_2_code 103 = .ok (.invokevirtual 53, 3) := by decide +kernel
theorem d_Fil_putBytes_106 : decode prog_5_method_2_code 106 = .ok (.aload_n 0, 1) := by decide +kernel
theorem d_Fil_putBytes_107 : decode prog_5_method_2_code 107 = .ok (.iload 6, 2) := by decide +kernel
theorem d_Fil_putBytes_109 : decode prog_5_method_2_code 109 = .ok (.iload_n 2, 1) := by decide +kernel
theorem d_Fil_putBytes_110 : decode prog_5_method_2_code 110 = .ok (.iload_n 3, 1) := by decide +kernel
theorem d_Fil_putBytes_111 : decode prog_5_method_2_code 111 = .ok (.aload 4, 2) := by decide +kernel
theorem d_Fil_putBytes_113 : decode prog_5_method_2_code 113 = .ok (.invokevirtual 56, 3) := by decide +kernel
theorem d_Fil_putBytes_116 : decode prog_5_method_2_code 116 = .ok (.aload_n 0, 1) := by decide +kernel
theorem d_Fil_putBytes_117 : decode prog_5_method_2_code 117 = .ok (.iload 6, 2) := by decide +kernel
theorem d_Fil_putBytes_119 : decode prog_5_method_2_code 119 = .ok (.aload_n 0, 1) := by decide +kernel
theorem d_Fil_putBytes_120 : decode prog_5_method_2_code 120 = .ok (.getfield 19, 3) := by decide +kernel
theorem d_Fil_putBytes_123 : decode prog_5_method_2_code 123 = .ok (.aload_n 0, 1) := by decide +kernel
theorem d_Fil_putBytes_124 : decode prog_5_method_2_code 124 = .ok (.getfield 33, 3) := by decide +kernel
theorem d_Fil_putBytes_127 : decode prog_5_method_2_code 127 = .ok (.invokevirtual 60, 3) := by decide +kernel
theorem d_Fil_putBytes_130 : decode prog_5_method_2_code 130 = .ok (.invokevirtual 66, 3) := by decide +kernel
theorem d_Fil_putBytes_133 : decode prog_5_method_2_code 133 = .ok (.iinc 6 1, 3) := by decide +kernel
theorem d_Fil_putBytes_136 : decode prog_5_method_2_code 136 = .ok (.goto (-43), 3) := by decide +kernel
theorem d_Fil_putBytes_139 : decode prog_5_method_2_code 139 = .ok (.aload_n 0, 1) := by decide +kernel
theorem d_Fil_putBytes_140 : decode prog_5_method_2_code 140 = .ok (.getfield 23, 3) := by decide +kernel
theorem d_Fil_putBytes_143 : decode prog_5_method_2_code 143 = .ok (.iconst 1, 1) := by decide +kernel
theorem d_Fil_putBytes_144 : decode prog_5_method_2_code 144 = .ok (.aload_n 0, 1) := by decide +kernel
theorem d_Fil_putBytes_145 : decode prog_5_method_2_code 145 = .ok (.getfield 23, 3) := by decide +kernel
theorem d_Fil_putBytes_148 : decode prog_5_method_2_code 148 = .ok (.iconst 1, 1) := by decide +kernel
theorem d_Fil_putBytes_149 : decode prog_5_method_2_code 149 = .ok (.iaload, 1) := by decide +kernel
theorem d_Fil_putBytes_150 : decode prog_5_method_2_code 150 = .ok (.iload_n 2, 1) := by decide +kernel
theorem d_Fil_putBytes_151 : decode prog_5_method_2_code 151 = .ok (.iload_n 3, 1) := by decide +kernel
theorem d_Fil_putBytes_152 : decode prog_5_method_2_code 152 = .ok (.iadd, 1) := by decide +kernel
theorem d_Fil_putBytes_153 : decode prog_5_method_2_code 153 = .ok (.invokestatic 70, 3) := by decide +kernel
theorem d_Fil_putBytes_156 : decode prog_5_method_2_code 156 = .ok (.iastore, 1) := by decide +kernel
theorem d_Fil_putBytes_157 : decode prog_5_method_2_code 157 = .ok (.aload_n 0, 1) := by decide +kernel
theorem d_Fil_putBytes_158 : decode prog_5_method_2_code 158 = .ok (.iconst 0, 1) := by decide +kernel
theorem d_Fil_putBytes_159 : decode prog_5_method_2_code 159 = .ok (.invokevirtual 76, 3) := by decide +kernel
theorem d_Fil_putBytes_162 : decode prog_5_method_2_code 162 = .ok (.aload_n 0, 1) := by decide +kernel
theorem d_Fil_putBytes_163 : decode prog_5_method_2_code 163 = .ok (.getfield 23, 3) := by decide +kernel
theorem d_Fil_putBytes_166 : decode prog_5_method_2_code 166 = .ok (.iconst 1, 1) := by decide +kernel
theorem d_Fil_putBytes_167 : decode prog_5_method_2_code 167 = .ok (.iaload, 1) := by decide +kernel
theorem d_Fil_putBytes_168 : decode prog_5_method_2_code 168 = .ok (.ireturn, 1) := by decide +kernel
set_option maxHeartbeats 4000000 in
set_option maxRecDepth 100000 in
theorem v_Fil_putBytes_139_0 {p : Program} {l : Launch} {e : Env} {s : State} {m : MethodId} {args : Array Value} {below : List Frame} {meth : Method} {c : Code} {D : va_G} {ad : Nat → Nat} {ca : Nat → ClassId} {A : Nat → Prop} {FU : Nat} {q : Int32 × St} (X : FX p s m meth c prog_5_method_2_code 7 (some .int) "FlashFiles$Files" D (tyF ca) A) {y2 : Int32} {y3 : Int32} {g : St} {H : Heap} {locs : List Loc} {ls : Array Slot} (hP : va_P D cls (wF ad ca g) H) (hD : va_D A (wF ad ca g)) (hS : va_S A s.heap H locs) (hl : lv_has ls 7 [(0, .ref (ad 6)), (2, .int y2), (3, .int y3)]) (h : Fil_putBytes_b139 FU 0 y2 y3 g = some q) : W p l e (rmN 7) s m args below meth c H locs 0 0 (MQ below (fxQi D (tyF ca) A (wF ad ca q.2) q.1) args s 0 0 A) (F0 m 139 ls []) := by
  have hx := X.1
  have hb := X.2.1
  unfold Fil_putBytes_b139 at h
  refine lv_aload_n hx hb d_Fil_putBytes_139 rfl (lv_at hl 0 rfl) ?_
  refine gF_fil_inode X hP d_Fil_putBytes_140 ?_
  refine lv_iconst (v := 1) hx hb d_Fil_putBytes_143 (by decide) ?_
  refine lv_aload_n hx hb d_Fil_putBytes_144 rfl (lv_at hl 0 rfl) ?_
  refine gF_fil_inode X hP d_Fil_putBytes_145 ?_
  refine lv_iconst (v := 1) hx hb d_Fil_putBytes_148 (by decide) ?_
  obtain ⟨v1, e1, h⟩ := bd_some h
  refine rF_13 X hP e1 d_Fil_putBytes_149 ?_
  refine lv_iload_n hx hb d_Fil_putBytes_150 rfl (lv_at hl 1 rfl) ?_
  refine lv_iload_n hx hb d_Fil_putBytes_151 rfl (lv_at hl 2 rfl) ?_
  refine lv_iadd hx hb d_Fil_putBytes_152 ?_
  refine va_mmax hx hb (X.2.2.1.trans hl.1.symm) X.2.2.2.2.2.1 (X.2.2.2.2.2.2.1.use q6_71) (X.2.2.2.2.2.2.1.use q2_190) (X.2.2.2.2.2.2.1.use q1_16) (X.2.2.2.2.2.2.1.use math_max) (Nat.le_of_ble_eq_true rfl) (Nat.le_of_ble_eq_true rfl) (Nat.zero_le _) (Nat.zero_le _) d_Fil_putBytes_153 ?_
  obtain ⟨g2, e1, h⟩ := bd_some h
  refine sF_13 X hP hD hS e1 d_Fil_putBytes_156 (fun H locs hP hD hS => ?_)
  refine lv_aload_n hx hb d_Fil_putBytes_157 rfl (lv_at hl 0 rfl) ?_
  refine lv_iconst (v := 0) hx hb d_Fil_putBytes_158 (by decide) ?_
  obtain ⟨p3, e1, h⟩ := bd_some h
  refine fx_v X (fx_runV (As := [.int (0 : Int32)]) X (m_Fil_finish e1 _) hP hD kv_Fil_76 ⟨Nat.le_of_ble_eq_true rfl, Nat.le_of_ble_eq_true rfl⟩ 6 rfl rfl rfl hl.1 rfl (Nat.le_of_ble_eq_true rfl) d_Fil_putBytes_159) hD hS (fun H locs hP hD hS => ?_)
  refine lv_aload_n hx hb d_Fil_putBytes_162 rfl (lv_at hl 0 rfl) ?_
  refine gF_fil_inode X hP d_Fil_putBytes_163 ?_
  refine lv_iconst (v := 1) hx hb d_Fil_putBytes_166 (by decide) ?_
  obtain ⟨v4, e1, h⟩ := bd_some h
  refine rF_13 X hP e1 d_Fil_putBytes_167 ?_
  cases h
  exact fx_iret X hP hD hS d_Fil_putBytes_168
set_option maxHeartbeats 4000000 in
set_option maxRecDepth 100000 in
theorem v_Fil_putBytes_93_0 {p : Program} {l : Launch} {e : Env} {s : State} {m : MethodId} {args : Array Value} {below : List Frame} {meth : Method} {c : Code} {D : va_G} {ad : Nat → Nat} {ca : Nat → ClassId} {A : Nat → Prop} {FU : Nat} {q : Int32 × St} (X : FX p s m meth c prog_5_method_2_code 7 (some .int) "FlashFiles$Files" D (tyF ca) A) : ∀ (n : Nat), ∀ (y2 y3 y5 y6 : Int32) (g : St) (H : Heap) (locs : List Loc) (ls : Array Slot), va_P D cls (wF ad ca g) H → va_D A (wF ad ca g) → va_S A s.heap H locs → lv_has ls 7 [(0, .ref (ad 6)), (2, .int y2), (3, .int y3), (4, .ref (ad 1)), (5, .int y5), (6, .int y6)] → Fil_putBytes_b93 FU 0 n y2 y3 y5 y6 g = some q → W p l e (rmN 7) s m args below meth c H locs 0 0 (MQ below (fxQi D (tyF ca) A (wF ad ca q.2) q.1) args s 0 0 A) (F0 m 93 ls []) := by
  have hx := X.1
  have hb := X.2.1
  intro n
  induction n with
  | zero =>
    intro y2 y3 y5 y6 g H locs ls hP hD hS hl h
    cases h
  | succ n ih =>
    intro y2 y3 y5 y6 g H locs ls hP hD hS hl h
    have h := h
    rw [Fil_putBytes_b93.eq_2] at h
    refine lv_iload hx hb d_Fil_putBytes_93 (lv_at hl 5 rfl) ?_
    refine lv_iload hx hb d_Fil_putBytes_95 (lv_at hl 4 rfl) ?_
    refine lv_icmp_gt (tgt := 139) hx hb d_Fil_putBytes_97 (by decide) (fun hc => ?_) (fun hc => ?_)
    · have h := if_t hc h
      exact v_Fil_putBytes_139_0 X  hP hD hS (lv_sub hl [0, 1, 2] rfl) h
    · have h := if_f hc h
      refine lv_aload_n hx hb d_Fil_putBytes_100 rfl (lv_at hl 0 rfl) ?_
      refine lv_iload hx hb d_Fil_putBytes_101 (lv_at hl 5 rfl) ?_
      obtain ⟨p5, e1, h⟩ := bd_some h
      refine fx_v X (fx_runV (As := [.int y6]) X (m_Fil_turnTo e1 _) hP hD kv_Fil_53 ⟨Nat.le_of_ble_eq_true rfl, Nat.le_of_ble_eq_true rfl⟩ 6 rfl rfl rfl hl.1 rfl (Nat.le_of_ble_eq_true rfl) d_Fil_putBytes_103) hD hS (fun H locs hP hD hS => ?_)
      refine lv_aload_n hx hb d_Fil_putBytes_106 rfl (lv_at hl 0 rfl) ?_
      refine lv_iload hx hb d_Fil_putBytes_107 (lv_at hl 5 rfl) ?_
      refine lv_iload_n hx hb d_Fil_putBytes_109 rfl (lv_at hl 1 rfl) ?_
      refine lv_iload_n hx hb d_Fil_putBytes_110 rfl (lv_at hl 2 rfl) ?_
      refine lv_aload hx hb d_Fil_putBytes_111 (lv_at hl 3 rfl) ?_
      obtain ⟨p6, e1, h⟩ := bd_some h
      refine fx_v X (fx_runV (As := [.int y6, .int y2, .int y3, .ref (ad 1)]) X (m_Fil_fillBlock_0 e1 _) hP hD kv_Fil_56 ⟨Nat.le_of_ble_eq_true rfl, Nat.le_of_ble_eq_true rfl⟩ 6 rfl rfl rfl hl.1 rfl (Nat.le_of_ble_eq_true rfl) d_Fil_putBytes_113) hD hS (fun H locs hP hD hS => ?_)
      refine lv_aload_n hx hb d_Fil_putBytes_116 rfl (lv_at hl 0 rfl) ?_
      refine lv_iload hx hb d_Fil_putBytes_117 (lv_at hl 5 rfl) ?_
      refine lv_aload_n hx hb d_Fil_putBytes_119 rfl (lv_at hl 0 rfl) ?_
      refine gF_fil_log X hP d_Fil_putBytes_120 ?_
      refine lv_aload_n hx hb d_Fil_putBytes_123 rfl (lv_at hl 0 rfl) ?_
      refine gF_fil_block X hP d_Fil_putBytes_124 ?_
      obtain ⟨p7, e1, h⟩ := bd_some h
      refine fx_i X (fx_runV (As := [.ref (ad 27)]) X (m_Log_putData_16 e1 _) hP hD kv_Fil_60 ⟨Nat.le_of_ble_eq_true rfl, Nat.le_of_ble_eq_true rfl⟩ 5 rfl rfl rfl hl.1 rfl (Nat.le_of_ble_eq_true rfl) d_Fil_putBytes_127) hD hS (fun H locs hP hD hS => ?_)
      obtain ⟨p8, e1, h⟩ := bd_some h
      refine fx_v X (fx_runV (As := [.int y6, .int p7.1]) X (m_Fil_setPlace e1 _) hP hD kv_Fil_66 ⟨Nat.le_of_ble_eq_true rfl, Nat.le_of_ble_eq_true rfl⟩ 6 rfl rfl rfl hl.1 rfl (Nat.le_of_ble_eq_true rfl) d_Fil_putBytes_130) hD hS (fun H locs hP hD hS => ?_)
      refine lv_iinc (k := 5) (v := (y6 + (1 : Int32))) hx hb d_Fil_putBytes_133 hl rfl (oi_1 _) (by decide) rfl (fun ls hl => ?_)
      have hl : lv_has ls 7 [(6, .int (y6 + (1 : Int32))), (0, .ref (ad 6)), (2, .int y2), (3, .int y3), (4, .ref (ad 1)), (5, .int y5)] := hl
      refine lv_goto (tgt := 93) hx hb d_Fil_putBytes_136 (by decide) ?_
      exact ih _ _ _ _ _ _ _ _ hP hD hS (lv_sub hl [1, 2, 3, 4, 5, 0] rfl) h
set_option maxHeartbeats 4000000 in
set_option maxRecDepth 100000 in
theorem v_Fil_putBytes_75_0 {p : Program} {l : Launch} {e : Env} {s : State} {m : MethodId} {args : Array Value} {below : List Frame} {meth : Method} {c : Code} {D : va_G} {ad : Nat → Nat} {ca : Nat → ClassId} {A : Nat → Prop} {FU : Nat} {q : Int32 × St} (X : FX p s m meth c prog_5_method_2_code 7 (some .int) "FlashFiles$Files" D (tyF ca) A) {y2 : Int32} {y3 : Int32} {g : St} {H : Heap} {locs : List Loc} {ls : Array Slot} (hP : va_P D cls (wF ad ca g) H) (hD : va_D A (wF ad ca g)) (hS : va_S A s.heap H locs) (hl : lv_has ls 7 [(0, .ref (ad 6)), (2, .int y2), (3, .int y3), (4, .ref (ad 1))]) (h : Fil_putBytes_b75 FU 0 y2 y3 g = some q) : W p l e (rmN 7) s m args below meth c H locs 0 0 (MQ below (fxQi D (tyF ca) A (wF ad ca q.2) q.1) args s 0 0 A) (F0 m 75 ls []) := by
  have hx := X.1
  have hb := X.2.1
  unfold Fil_putBytes_b75 at h
  refine lv_iload_n hx hb d_Fil_putBytes_75 rfl (lv_at hl 1 rfl) ?_
  refine lv_iload_n hx hb d_Fil_putBytes_76 rfl (lv_at hl 2 rfl) ?_
  refine lv_iadd hx hb d_Fil_putBytes_77 ?_
  refine lv_iconst (v := 1) hx hb d_Fil_putBytes_78 (by decide) ?_
  refine lv_isub hx hb d_Fil_putBytes_79 ?_
  refine lv_sipush (v := 256) hx hb d_Fil_putBytes_80 (by decide) ?_
  refine lv_idiv hx hb d_Fil_putBytes_83 (by decide) ?_
  refine lv_istore hx hb d_Fil_putBytes_84 hl (by decide) rfl (fun ls hl => ?_)
  have hl : lv_has ls 7 [(5, .int (((y2 + y3) - (1 : Int32)) / (256 : Int32))), (0, .ref (ad 6)), (2, .int y2), (3, .int y3), (4, .ref (ad 1))] := hl
  refine lv_iload_n hx hb d_Fil_putBytes_86 rfl (lv_at hl 2 rfl) ?_
  refine lv_sipush (v := 256) hx hb d_Fil_putBytes_87 (by decide) ?_
  refine lv_idiv hx hb d_Fil_putBytes_90 (by decide) ?_
  refine lv_istore hx hb d_Fil_putBytes_91 hl (by decide) rfl (fun ls hl => ?_)
  have hl : lv_has ls 7 [(6, .int (y2 / (256 : Int32))), (5, .int (((y2 + y3) - (1 : Int32)) / (256 : Int32))), (0, .ref (ad 6)), (2, .int y2), (3, .int y3), (4, .ref (ad 1))] := hl
  exact v_Fil_putBytes_93_0 X  _ _ _ _ _ _ _ _ _ hP hD hS (lv_sub hl [2, 3, 4, 5, 1, 0] rfl) h
set_option maxHeartbeats 4000000 in
set_option maxRecDepth 100000 in
theorem v_Fil_putBytes_61_0 {p : Program} {l : Launch} {e : Env} {s : State} {m : MethodId} {args : Array Value} {below : List Frame} {meth : Method} {c : Code} {D : va_G} {ad : Nat → Nat} {ca : Nat → ClassId} {A : Nat → Prop} {FU : Nat} {q : Int32 × St} (X : FX p s m meth c prog_5_method_2_code 7 (some .int) "FlashFiles$Files" D (tyF ca) A) {y2 : Int32} {y3 : Int32} {g : St} {H : Heap} {locs : List Loc} {ls : Array Slot} (hP : va_P D cls (wF ad ca g) H) (hD : va_D A (wF ad ca g)) (hS : va_S A s.heap H locs) (hl : lv_has ls 7 [(0, .ref (ad 6)), (2, .int y2), (3, .int y3), (4, .ref (ad 1))]) (h : Fil_putBytes_b61 FU 0 y2 y3 g = some q) : W p l e (rmN 7) s m args below meth c H locs 0 0 (MQ below (fxQi D (tyF ca) A (wF ad ca q.2) q.1) args s 0 0 A) (F0 m 61 ls []) := by
  have hx := X.1
  have hb := X.2.1
  unfold Fil_putBytes_b61 at h
  refine lv_aload_n hx hb d_Fil_putBytes_61 rfl (lv_at hl 0 rfl) ?_
  refine gF_fil_inode X hP d_Fil_putBytes_62 ?_
  refine lv_iconst (v := 3) hx hb d_Fil_putBytes_65 (by decide) ?_
  obtain ⟨v9, e1, h⟩ := bd_some h
  refine rF_13 X hP e1 d_Fil_putBytes_66 ?_
  refine lv_iconst (v := 1) hx hb d_Fil_putBytes_67 (by decide) ?_
  refine lv_icmp_ne (tgt := 75) hx hb d_Fil_putBytes_68 (by decide) (fun hc => ?_) (fun hc => ?_)
  · have h := if_f hc h
    exact v_Fil_putBytes_75_0 X  hP hD hS (lv_sub hl [0, 1, 2, 3] rfl) h
  · have h := if_t hc h
    refine lv_aload_n hx hb d_Fil_putBytes_71 rfl (lv_at hl 0 rfl) ?_
    obtain ⟨p10, e1, h⟩ := bd_some h
    refine fx_v X (fx_runV (As := []) X (m_Fil_leaveSmall e1 _) hP hD kv_Fil_50 ⟨Nat.le_of_ble_eq_true rfl, Nat.le_of_ble_eq_true rfl⟩ 6 rfl rfl rfl hl.1 rfl (Nat.le_of_ble_eq_true rfl) d_Fil_putBytes_72) hD hS (fun H locs hP hD hS => ?_)
    exact v_Fil_putBytes_75_0 X  hP hD hS (lv_sub hl [0, 1, 2, 3] rfl) h
set_option maxHeartbeats 4000000 in
set_option maxRecDepth 100000 in
theorem v_Fil_putBytes_26_0 {p : Program} {l : Launch} {e : Env} {s : State} {m : MethodId} {args : Array Value} {below : List Frame} {meth : Method} {c : Code} {D : va_G} {ad : Nat → Nat} {ca : Nat → ClassId} {A : Nat → Prop} {FU : Nat} {q : Int32 × St} (X : FX p s m meth c prog_5_method_2_code 7 (some .int) "FlashFiles$Files" D (tyF ca) A) : ∀ (n : Nat), ∀ (y2 y3 y5 : Int32) (g : St) (H : Heap) (locs : List Loc) (ls : Array Slot), va_P D cls (wF ad ca g) H → va_D A (wF ad ca g) → va_S A s.heap H locs → lv_has ls 7 [(0, .ref (ad 6)), (2, .int y2), (3, .int y3), (4, .ref (ad 1)), (5, .int y5)] → Fil_putBytes_b26 FU 0 n y2 y3 y5 g = some q → W p l e (rmN 7) s m args below meth c H locs 0 0 (MQ below (fxQi D (tyF ca) A (wF ad ca q.2) q.1) args s 0 0 A) (F0 m 26 ls []) := by
  have hx := X.1
  have hb := X.2.1
  intro n
  induction n with
  | zero =>
    intro y2 y3 y5 g H locs ls hP hD hS hl h
    cases h
  | succ n ih =>
    intro y2 y3 y5 g H locs ls hP hD hS hl h
    have h := h
    rw [Fil_putBytes_b26.eq_2] at h
    refine lv_iload hx hb d_Fil_putBytes_26 (lv_at hl 4 rfl) ?_
    refine lv_iload_n hx hb d_Fil_putBytes_28 rfl (lv_at hl 2 rfl) ?_
    refine lv_icmp_ge (tgt := 58) hx hb d_Fil_putBytes_29 (by decide) (fun hc => ?_) (fun hc => ?_)
    · have h := if_t hc h
      refine lv_goto (tgt := 139) hx hb d_Fil_putBytes_58 (by decide) ?_
      exact v_Fil_putBytes_139_0 X  hP hD hS (lv_sub hl [0, 1, 2] rfl) h
    · have h := if_f hc h
      refine lv_aload_n hx hb d_Fil_putBytes_32 rfl (lv_at hl 0 rfl) ?_
      refine gF_fil_inode X hP d_Fil_putBytes_33 ?_
      refine lv_bipush (v := 30) hx hb d_Fil_putBytes_36 (by decide) ?_
      refine lv_iload_n hx hb d_Fil_putBytes_38 rfl (lv_at hl 1 rfl) ?_
      refine lv_iload hx hb d_Fil_putBytes_39 (lv_at hl 4 rfl) ?_
      refine lv_iadd hx hb d_Fil_putBytes_41 ?_
      refine lv_aload hx hb d_Fil_putBytes_42 (lv_at hl 3 rfl) ?_
      refine lv_iload hx hb d_Fil_putBytes_44 (lv_at hl 4 rfl) ?_
      obtain ⟨v11, e1, h⟩ := bd_some h
      refine fx_i X (fx_runV (As := [.int y5]) X (m_Row_at_0 e1 _) hP hD kv_Fil_40 ⟨Nat.le_of_ble_eq_true rfl, Nat.le_of_ble_eq_true rfl⟩ 1 rfl rfl rfl hl.1 rfl (Nat.le_of_ble_eq_true rfl) d_Fil_putBytes_46) hD hS (fun H locs hP hD hS => ?_)
      obtain ⟨p12, e1, h⟩ := bd_some h
      refine fx_v X (fx_runN X (m_FF_putByte_13 e1 _) (As := [.ref (ad 24), .int (30 : Int32), .int (y2 + y5), .int v11]) hP hD kn_Fil_46 ⟨Nat.le_of_ble_eq_true rfl, Nat.le_of_ble_eq_true rfl⟩ rfl hl.1 rfl (Nat.le_of_ble_eq_true rfl) d_Fil_putBytes_49) hD hS (fun H locs hP hD hS => ?_)
      refine lv_iinc (k := 4) (v := (y5 + (1 : Int32))) hx hb d_Fil_putBytes_52 hl rfl (oi_1 _) (by decide) rfl (fun ls hl => ?_)
      have hl : lv_has ls 7 [(5, .int (y5 + (1 : Int32))), (0, .ref (ad 6)), (2, .int y2), (3, .int y3), (4, .ref (ad 1))] := hl
      refine lv_goto (tgt := 26) hx hb d_Fil_putBytes_55 (by decide) ?_
      exact ih _ _ _ _ _ _ _ hP hD hS (lv_sub hl [1, 2, 3, 4, 0] rfl) h
set_option maxHeartbeats 4000000 in
set_option maxRecDepth 100000 in
theorem m_Fil_putBytes_0 {l : Launch} {D : va_G} {ad : Nat → Nat} {ca : Nat → ClassId} {FU : Nat} {x1 : Int32} {x2 : Int32} {x3 : Int32} {g : St} {q : Int32 × St} (h : Fil_putBytes FU 0 x1 x2 x3 g = some q) : CI l ⟨"FlashFiles$Files", "putBytes", "(IIILFlashFiles$Row;)I"⟩ prog_5_method_2_code 7 7 (some .int) D (tyF ca) (wF ad ca g) [.ref (ad 6), .int x1, .int x2, .int x3, .ref (ad 1)] q.1 (wF ad ca q.2) := by
  intro sz
  refine Met.fx (Qc := fun A => fxQi D (tyF ca) A (wF ad ca q.2) q.1) (by decide) (Nat.le_of_ble_eq_true rfl) ?_
  intro p e s m below meth c A ls X hP hD hl
  have hl : lv_has ls 7 [(0, .ref (ad 6)), (1, .int x1), (2, .int x2), (3, .int x3), (4, .ref (ad 1))] := hl
  have hS : va_S A s.heap s.heap [] := va_S.rf
  have hx := X.1
  have hb := X.2.1
  unfold Fil_putBytes at h
  refine lv_aload_n hx hb d_Fil_putBytes_0 rfl (lv_at hl 0 rfl) ?_
  refine lv_iload_n hx hb d_Fil_putBytes_1 rfl (lv_at hl 1 rfl) ?_
  obtain ⟨p13, e1, h⟩ := bd_some h
  refine fx_v X (fx_runV (As := [.int x1]) X (m_Fil_begin e1 _) hP hD kv_Fil_36 ⟨Nat.le_of_ble_eq_true rfl, Nat.le_of_ble_eq_true rfl⟩ 6 rfl rfl rfl hl.1 rfl (Nat.le_of_ble_eq_true rfl) d_Fil_putBytes_2) hD hS (fun H locs hP hD hS => ?_)
  refine lv_aload_n hx hb d_Fil_putBytes_5 rfl (lv_at hl 0 rfl) ?_
  refine gF_fil_inode X hP d_Fil_putBytes_6 ?_
  refine lv_iconst (v := 3) hx hb d_Fil_putBytes_9 (by decide) ?_
  obtain ⟨v14, e1, h⟩ := bd_some h
  refine rF_13 X hP e1 d_Fil_putBytes_10 ?_
  refine lv_iconst (v := 1) hx hb d_Fil_putBytes_11 (by decide) ?_
  refine lv_icmp_ne (tgt := 61) hx hb d_Fil_putBytes_12 (by decide) (fun hc => ?_) (fun hc => ?_)
  · have h := if_f hc h
    exact v_Fil_putBytes_61_0 X  hP hD hS (lv_sub hl [0, 2, 3, 4] rfl) h
  · have h := if_t hc h
    refine lv_iload_n hx hb d_Fil_putBytes_15 rfl (lv_at hl 2 rfl) ?_
    refine lv_iload_n hx hb d_Fil_putBytes_16 rfl (lv_at hl 3 rfl) ?_
    refine lv_iadd hx hb d_Fil_putBytes_17 ?_
    refine lv_bipush (v := 96) hx hb d_Fil_putBytes_18 (by decide) ?_
    refine lv_icmp_gt (tgt := 61) hx hb d_Fil_putBytes_20 (by decide) (fun hc => ?_) (fun hc => ?_)
    · have h := if_t hc h
      exact v_Fil_putBytes_61_0 X  hP hD hS (lv_sub hl [0, 2, 3, 4] rfl) h
    · have h := if_f hc h
      refine lv_iconst (v := 0) hx hb d_Fil_putBytes_23 (by decide) ?_
      refine lv_istore hx hb d_Fil_putBytes_24 hl (by decide) rfl (fun ls hl => ?_)
      have hl : lv_has ls 7 [(5, .int (0 : Int32)), (0, .ref (ad 6)), (1, .int x1), (2, .int x2), (3, .int x3), (4, .ref (ad 1))] := hl
      exact v_Fil_putBytes_26_0 X  _ _ _ _ _ _ _ _ hP hD hS (lv_sub hl [1, 3, 4, 5, 0] rfl) h
theorem d_Fil_tellBytes_0 : decode prog_5_method_3_code 0 = .ok (.aload_n 0, 1) := by decide +kernel
theorem d_Fil_tellBytes_1 : decode prog_5_method_3_code 1 = .ok (.iload_n 1, 1) := by decide +kernel
theorem d_Fil_tellBytes_2 : decode prog_5_method_3_code 2 = .ok (.invokevirtual 36, 3) := by decide +kernel
theorem d_Fil_tellBytes_5 : decode prog_5_method_3_code 5 = .ok (.aload 4, 2) := by decide +kernel
theorem d_Fil_tellBytes_7 : decode prog_5_method_3_code 7 = .ok (.iconst 0, 1) := by decide +kernel
theorem d_Fil_tellBytes_8 : decode prog_5_method_3_code 8 = .ok (.invokevirtual 79, 3) := by decide +kernel
theorem d_Fil_tellBytes_11 : decode prog_5_method_3_code 11 = .ok (.iload_n 2, 1) := by decide +kernel
theorem d_Fil_tellBytes_12 : decode prog_5_method_3_code 12 = .ok (.aload_n 0, 1) := by decide +kernel
theorem d_Fil_tellBytes_13 : decode prog_5_method_3_code 13 = .ok (.getfield 23, 3) := by decide +kernel
theorem d_Fil_tellBytes_16 : decode prog_5_method_3_code 16 = .ok (.iconst 1, 1) := by decide +kernel
theorem d_Fil_tellBytes_17 : decode prog_5_method_3_code 17 = .ok (.iaload, 1) := by decide +kernel
theorem d_Fil_tellBytes_18 : decode prog_5_method_3_code 18 = .ok (.if_icmp .lt 7, 3) := by decide +kernel
theorem d_Fil_tellBytes_21 : decode prog_5_method_3_code 21 = .ok (.iload_n 2, 1) := by decide +kernel
theorem d_Fil_tellBytes_22 : decode prog_5_method_3_code 22 = .ok (.goto 17, 3) := by decide +kernel
theorem d_Fil_tellBytes_25 : decode prog_5_method_3_code 25 = .ok (.iload_n 2, 1) := by decide +kernel
theorem d_Fil_tellBytes_26 : decode prog_5_method_3_code 26 = .ok (.iload_n 3, 1) := by decide +kernel
theorem d_Fil_tellBytes_27 : decode prog_5_method_3_code 27 = .ok (.aload_n 0, 1) := by decide +kernel
theorem d_Fil_tellBytes_28 : decode prog_5_method_3_code 28 = .ok (.getfield 23, 3) := by decide +kernel
theorem d_Fil_tellBytes_31 : decode prog_5_method_3_code 31 = .ok (.iconst 1, 1) := by decide +kernel
theorem d_Fil_tellBytes_32 : decode prog_5_method_3_code 32 = .ok (.iaload, 1) := by decide +kernel
theorem d_Fil_tellBytes_33 : decode prog_5_method_3_code 33 = .ok (.iload_n 2, 1) := by decide +kernel
theorem d_Fil_tellBytes_34 : decode prog_5_method_3_code 34 = .ok (.isub, 1) := by decide +kernel
theorem d_Fil_tellBytes_35 : decode prog_5_method_3_code 35 = .ok (.invokestatic 82, 3) := by decide +kernel
theorem d_Fil_tellBytes_38 : decode prog_5_method_3_code 38 = .ok (.iadd, 1) := by decide +kernel
theorem d_Fil_tellBytes_39 : decode prog_5_method_3_code 39 = .ok (.istore 5, 2) := by decide +kernel
theorem d_Fil_tellBytes_41 : decode prog_5_method_3_code 41 = .ok (.iload_n 2, 1) := by decide +kernel
theorem d_Fil_tellBytes_42 : decode prog_5_method_3_code 42 = .ok (.istore 6, 2) := by decide +kernel
theorem d_Fil_tellBytes_44 : decode prog_5_method_3_code 44 = .ok (.iload 6, 2) := by decide +kernel
theorem d_Fil_tellBytes_46 : decode prog_5_method_3_code 46 = .ok (.iload 5, 2) := by decide +kernel
theorem d_Fil_tellBytes_48 : decode prog_5_method_3_code 48 = .ok (.if_icmp .ge 96, 3) := by decide +kernel
theorem d_Fil_tellBytes_51 : decode prog_5_method_3_code 51 = .ok (.aload_n 0, 1) := by decide +kernel
theorem d_Fil_tellBytes_52 : decode prog_5_method_3_code 52 = .ok (.getfield 23, 3) := by decide +kernel
theorem d_Fil_tellBytes_55 : decode prog_5_method_3_code 55 = .ok (.iconst 3, 1) := by decide +kernel
theorem d_Fil_tellBytes_56 : decode prog_5_method_3_code 56 = .ok (.iaload, 1) := by decide +kernel
theorem d_Fil_tellBytes_57 : decode prog_5_method_3_code 57 = .ok (.iconst 1, 1) := by decide +kernel
theorem d_Fil_tellBytes_58 : decode prog_5_method_3_code 58 = .ok (.if_icmp .ne 22, 3) := by decide +kernel
theorem d_Fil_tellBytes_61 : decode prog_5_method_3_code 61 = .ok (.aload 4, 2) := by decide +kernel
theorem d_Fil_tellBytes_63 : decode prog_5_method_3_code 63 = .ok (.aload_n 0, 1) := by decide +kernel
theorem d_Fil_tellBytes_64 : decode prog_5_method_3_code 64 = .ok (.getfield 23, 3) := by decide +kernel
theorem d_Fil_tellBytes_67 : decode prog_5_method_3_code 67 = .ok (.bipush 30, 2) := by decide +kernel
theorem d_Fil_tellBytes_69 : decode prog_5_method_3_code 69 = .ok (.iload 6, 2) := by decide +kernel
theorem d_Fil_tellBytes_71 : decode prog_5_method_3_code 71 = .ok (.invokestatic 85, 3) := by decide +kernel
theorem d_Fil_tellBytes_74 : decode prog_5_method_3_code 74 = .ok (.invokevirtual 89, 3) := by decide +kernel
theorem d_Fil_tellBytes_77 : decode prog_5_method_3_code 77 = .ok (.goto 61, 3) := by decide +kernel
theorem d_Fil_tellBytes_80 : decode prog_5_method_3_code 80 = .ok (.iload 6, 2) := by decide +kernel
theorem d_Fil_tellBytes_82 : decode prog_5_method_3_code 82 = .ok (.iload_n 2, 1) := by decide +kernel
theorem d_Fil_tellBytes_83 : decode prog_5_method_3_code 83 = .ok (.if_icmp .eq 12, 3) := by decide +kernel
theorem d_Fil_tellBytes_86 : decode prog_5_method_3_code 86 = .ok (.iload 6, 2) := by decide +kernel
theorem d_Fil_tellBytes_88 : decode prog_5_method_3_code 88 = .ok (.sipush 256, 3) := by decide +kernel
theorem d_Fil_tellBytes_91 : decode prog_5_method_3_code 91 = .ok (.irem, 1) := by decide +kernel
theorem d_Fil_tellBytes_92 : decode prog_5_method_3_code 92 = .ok (.ifCond .ne 27, 3) := by decide +kernel
theorem d_Fil_tellBytes_95 : decode prog_5_method_3_code 95 = .ok (.aload_n 0, 1) := by decide +kernel
theorem d_Fil_tellBytes_96 : decode prog_5_method_3_code 96 = .ok (.iload 6, 2) := by decide +kernel
theorem d_Fil_tellBytes_98 : decode prog_5_method_3_code 98 = .ok (.sipush 256, 3) := by decide +kernel
theorem d_Fil_tellBytes_101 : decode prog_5_method_3_code 101 = .ok (.idiv, 1) := by decide +kernel
theorem d_Fil_tellBytes_102 : decode prog_5_method_3_code 102 = .ok (.invokevirtual 53, 3) := by decide +kernel
theorem d_Fil_tellBytes_105 : decode prog_5_method_3_code 105 = .ok (.aload_n 0, 1) := by decide +kernel
theorem d_Fil_tellBytes_106 : decode prog_5_method_3_code 106 = .ok (.aload_n 0, 1) := by decide +kernel
theorem d_Fil_tellBytes_107 : decode prog_5_method_3_code 107 = .ok (.iload 6, 2) := by decide +kernel
theorem d_Fil_tellBytes_109 : decode prog_5_method_3_code 109 = .ok (.sipush 256, 3) := by decide +kernel
theorem d_Fil_tellBytes_112 : decode prog_5_method_3_code 112 = .ok (.idiv, 1) := by decide +kernel
theorem d_Fil_tellBytes_113 : decode prog_5_method_3_code 113 = .ok (.invokevirtual 92, 3) := by decide +kernel
theorem d_Fil_tellBytes_116 : decode prog_5_method_3_code 116 = .ok (.invokevirtual 95, 3) := by decide +kernel
theorem d_Fil_tellBytes_119 : decode prog_5_method_3_code 119 = .ok (.aload 4, 2) := by decide +kernel
theorem d_Fil_tellBytes_121 : decode prog_5_method_3_code 121 = .ok (.aload_n 0, 1) := by decide +kernel
theorem d_Fil_tellBytes_122 : decode prog_5_method_3_code 122 = .ok (.getfield 33, 3) := by decide +kernel
theorem d_Fil_tellBytes_125 : decode prog_5_method_3_code 125 = .ok (.iconst 0, 1) := by decide +kernel
theorem d_Fil_tellBytes_126 : decode prog_5_method_3_code 126 = .ok (.iload 6, 2) := by decide +kernel
theorem d_Fil_tellBytes_128 : decode prog_5_method_3_code 128 = .ok (.sipush 256, 3) := by decide +kernel
theorem d_Fil_tellBytes_131 : decode prog_5_method_3_code 131 = .ok (.irem, 1) := by decide +kernel
theorem d_Fil_tellBytes_132 : decode prog_5_method_3_code 132 = .ok (.invokestatic 85, 3) := by decide +kernel
theorem d_Fil_tellBytes_135 : decode prog_5_method_3_code 135 = .ok (.invokevirtual 89, 3) := by decide +kernel
theorem d_Fil_tellBytes_138 : decode prog_5_method_3_code 138 = .ok (.iinc 6 1, 3) := by decide +kernel
theorem d_Fil_tellBytes_141 : decode prog_5_method_3_code 141 = .ok (.goto (-97), 3) := by decide +kernel
theorem d_Fil_tellBytes_144 : decode prog_5_method_3_code 144 = .ok (.aload 4, 2) := by decide +kernel
theorem d_Fil_tellBytes_146 : decode prog_5_method_3_code 146 = .ok (.invokevirtual 98, 3) := by decide +kernel
theorem d_Fil_tellBytes_149 : decode prog_5_method_3_code 149 = .ok (.ireturn, 1) := by decide +kernel
set_option maxHeartbeats 4000000 in
set_option maxRecDepth 100000 in
theorem v_Fil_tellBytes_138_1 {p : Program} {l : Launch} {e : Env} {s : State} {m : MethodId} {args : Array Value} {below : List Frame} {meth : Method} {c : Code} {D : va_G} {ad : Nat → Nat} {ca : Nat → ClassId} {A : Nat → Prop} {FU : Nat} {q : Int32 × St} (X : FX p s m meth c prog_5_method_3_code 7 (some .int) "FlashFiles$Files" D (tyF ca) A) {k44 : Int32 → Int32 → Int32 → St → Option (Int32 × St)} (hk44 : ∀ (y2 y5 y6 : Int32) (g : St) (H : Heap) (locs : List Loc) (ls : Array Slot), va_P D cls (wF ad ca g) H → va_D A (wF ad ca g) → va_S A s.heap H locs → lv_has ls 7 [(0, .ref (ad 6)), (2, .int y2), (4, .ref (ad 2)), (5, .int y5), (6, .int y6)] → k44 y2 y5 y6 g = some q → W p l e (rmN 7) s m args below meth c H locs 0 0 (MQ below (fxQi D (tyF ca) A (wF ad ca q.2) q.1) args s 0 0 A) (F0 m 44 ls [])) {y2 : Int32} {y5 : Int32} {y6 : Int32} {g : St} {H : Heap} {locs : List Loc} {ls : Array Slot} (hP : va_P D cls (wF ad ca g) H) (hD : va_D A (wF ad ca g)) (hS : va_S A s.heap H locs) (hl : lv_has ls 7 [(0, .ref (ad 6)), (2, .int y2), (4, .ref (ad 2)), (5, .int y5), (6, .int y6)]) (h : Fil_tellBytes_b138 FU 1 k44 y2 y5 y6 g = some q) : W p l e (rmN 7) s m args below meth c H locs 0 0 (MQ below (fxQi D (tyF ca) A (wF ad ca q.2) q.1) args s 0 0 A) (F0 m 138 ls []) := by
  have hx := X.1
  have hb := X.2.1
  unfold Fil_tellBytes_b138 at h
  refine lv_iinc (k := 4) (v := (y6 + (1 : Int32))) hx hb d_Fil_tellBytes_138 hl rfl (oi_1 _) (by decide) rfl (fun ls hl => ?_)
  have hl : lv_has ls 7 [(6, .int (y6 + (1 : Int32))), (0, .ref (ad 6)), (2, .int y2), (4, .ref (ad 2)), (5, .int y5)] := hl
  refine lv_goto (tgt := 44) hx hb d_Fil_tellBytes_141 (by decide) ?_
  exact hk44 _ _ _ _ _ _ _ hP hD hS (lv_sub hl [1, 2, 3, 4, 0] rfl) h
set_option maxHeartbeats 4000000 in
set_option maxRecDepth 100000 in
theorem v_Fil_tellBytes_119_1 {p : Program} {l : Launch} {e : Env} {s : State} {m : MethodId} {args : Array Value} {below : List Frame} {meth : Method} {c : Code} {D : va_G} {ad : Nat → Nat} {ca : Nat → ClassId} {A : Nat → Prop} {FU : Nat} {q : Int32 × St} (X : FX p s m meth c prog_5_method_3_code 7 (some .int) "FlashFiles$Files" D (tyF ca) A) {k44 : Int32 → Int32 → Int32 → St → Option (Int32 × St)} (hk44 : ∀ (y2 y5 y6 : Int32) (g : St) (H : Heap) (locs : List Loc) (ls : Array Slot), va_P D cls (wF ad ca g) H → va_D A (wF ad ca g) → va_S A s.heap H locs → lv_has ls 7 [(0, .ref (ad 6)), (2, .int y2), (4, .ref (ad 2)), (5, .int y5), (6, .int y6)] → k44 y2 y5 y6 g = some q → W p l e (rmN 7) s m args below meth c H locs 0 0 (MQ below (fxQi D (tyF ca) A (wF ad ca q.2) q.1) args s 0 0 A) (F0 m 44 ls [])) {y2 : Int32} {y5 : Int32} {y6 : Int32} {g : St} {H : Heap} {locs : List Loc} {ls : Array Slot} (hP : va_P D cls (wF ad ca g) H) (hD : va_D A (wF ad ca g)) (hS : va_S A s.heap H locs) (hl : lv_has ls 7 [(0, .ref (ad 6)), (2, .int y2), (4, .ref (ad 2)), (5, .int y5), (6, .int y6)]) (h : Fil_tellBytes_b119 FU 1 k44 y2 y5 y6 g = some q) : W p l e (rmN 7) s m args below meth c H locs 0 0 (MQ below (fxQi D (tyF ca) A (wF ad ca q.2) q.1) args s 0 0 A) (F0 m 119 ls []) := by
  have hx := X.1
  have hb := X.2.1
  unfold Fil_tellBytes_b119 at h
  refine lv_aload hx hb d_Fil_tellBytes_119 (lv_at hl 2 rfl) ?_
  refine lv_aload_n hx hb d_Fil_tellBytes_121 rfl (lv_at hl 0 rfl) ?_
  refine gF_fil_block X hP d_Fil_tellBytes_122 ?_
  refine lv_iconst (v := 0) hx hb d_Fil_tellBytes_125 (by decide) ?_
  refine lv_iload hx hb d_Fil_tellBytes_126 (lv_at hl 4 rfl) ?_
  refine lv_sipush (v := 256) hx hb d_Fil_tellBytes_128 (by decide) ?_
  refine lv_irem hx hb d_Fil_tellBytes_131 (by decide) ?_
  obtain ⟨v1, e1, h⟩ := bd_some h
  refine fx_i X (fx_runN X (m_FF_getByte_16 e1 _) (As := [.ref (ad 27), .int (0 : Int32), .int (y6 - y6 / (256 : Int32) * (256 : Int32))]) hP hD kn_Fil_85 ⟨Nat.le_of_ble_eq_true rfl, Nat.le_of_ble_eq_true rfl⟩ rfl hl.1 rfl (Nat.le_of_ble_eq_true rfl) d_Fil_tellBytes_132) hD hS (fun H locs hP hD hS => ?_)
  obtain ⟨p2, e1, h⟩ := bd_some h
  refine fx_v X (fx_runV (As := [.int v1]) X (m_Row_add_1 e1 _) hP hD kv_Fil_89 ⟨Nat.le_of_ble_eq_true rfl, Nat.le_of_ble_eq_true rfl⟩ 2 rfl rfl rfl hl.1 rfl (Nat.le_of_ble_eq_true rfl) d_Fil_tellBytes_135) hD hS (fun H locs hP hD hS => ?_)
  exact v_Fil_tellBytes_138_1 X hk44 hP hD hS (lv_sub hl [0, 1, 2, 3, 4] rfl) h
set_option maxHeartbeats 4000000 in
set_option maxRecDepth 100000 in
theorem v_Fil_tellBytes_95_1 {p : Program} {l : Launch} {e : Env} {s : State} {m : MethodId} {args : Array Value} {below : List Frame} {meth : Method} {c : Code} {D : va_G} {ad : Nat → Nat} {ca : Nat → ClassId} {A : Nat → Prop} {FU : Nat} {q : Int32 × St} (X : FX p s m meth c prog_5_method_3_code 7 (some .int) "FlashFiles$Files" D (tyF ca) A) {k44 : Int32 → Int32 → Int32 → St → Option (Int32 × St)} (hk44 : ∀ (y2 y5 y6 : Int32) (g : St) (H : Heap) (locs : List Loc) (ls : Array Slot), va_P D cls (wF ad ca g) H → va_D A (wF ad ca g) → va_S A s.heap H locs → lv_has ls 7 [(0, .ref (ad 6)), (2, .int y2), (4, .ref (ad 2)), (5, .int y5), (6, .int y6)] → k44 y2 y5 y6 g = some q → W p l e (rmN 7) s m args below meth c H locs 0 0 (MQ below (fxQi D (tyF ca) A (wF ad ca q.2) q.1) args s 0 0 A) (F0 m 44 ls [])) {y2 : Int32} {y5 : Int32} {y6 : Int32} {g : St} {H : Heap} {locs : List Loc} {ls : Array Slot} (hP : va_P D cls (wF ad ca g) H) (hD : va_D A (wF ad ca g)) (hS : va_S A s.heap H locs) (hl : lv_has ls 7 [(0, .ref (ad 6)), (2, .int y2), (4, .ref (ad 2)), (5, .int y5), (6, .int y6)]) (h : Fil_tellBytes_b95 FU 1 k44 y2 y5 y6 g = some q) : W p l e (rmN 7) s m args below meth c H locs 0 0 (MQ below (fxQi D (tyF ca) A (wF ad ca q.2) q.1) args s 0 0 A) (F0 m 95 ls []) := by
  have hx := X.1
  have hb := X.2.1
  unfold Fil_tellBytes_b95 at h
  refine lv_aload_n hx hb d_Fil_tellBytes_95 rfl (lv_at hl 0 rfl) ?_
  refine lv_iload hx hb d_Fil_tellBytes_96 (lv_at hl 4 rfl) ?_
  refine lv_sipush (v := 256) hx hb d_Fil_tellBytes_98 (by decide) ?_
  refine lv_idiv hx hb d_Fil_tellBytes_101 (by decide) ?_
  obtain ⟨p3, e1, h⟩ := bd_some h
  refine fx_v X (fx_runV (As := [.int (y6 / (256 : Int32))]) X (m_Fil_turnTo e1 _) hP hD kv_Fil_53 ⟨Nat.le_of_ble_eq_true rfl, Nat.le_of_ble_eq_true rfl⟩ 6 rfl rfl rfl hl.1 rfl (Nat.le_of_ble_eq_true rfl) d_Fil_tellBytes_102) hD hS (fun H locs hP hD hS => ?_)
  refine lv_aload_n hx hb d_Fil_tellBytes_105 rfl (lv_at hl 0 rfl) ?_
  refine lv_aload_n hx hb d_Fil_tellBytes_106 rfl (lv_at hl 0 rfl) ?_
  refine lv_iload hx hb d_Fil_tellBytes_107 (lv_at hl 4 rfl) ?_
  refine lv_sipush (v := 256) hx hb d_Fil_tellBytes_109 (by decide) ?_
  refine lv_idiv hx hb d_Fil_tellBytes_112 (by decide) ?_
  obtain ⟨v4, e1, h⟩ := bd_some h
  refine fx_i X (fx_runV (As := [.int (y6 / (256 : Int32))]) X (m_Fil_placeOf e1 _) hP hD kv_Fil_92 ⟨Nat.le_of_ble_eq_true rfl, Nat.le_of_ble_eq_true rfl⟩ 6 rfl rfl rfl hl.1 rfl (Nat.le_of_ble_eq_true rfl) d_Fil_tellBytes_113) hD hS (fun H locs hP hD hS => ?_)
  obtain ⟨p5, e1, h⟩ := bd_some h
  refine fx_v X (fx_runV (As := [.int v4]) X (m_Fil_loadBlock e1 _) hP hD kv_Fil_95 ⟨Nat.le_of_ble_eq_true rfl, Nat.le_of_ble_eq_true rfl⟩ 6 rfl rfl rfl hl.1 rfl (Nat.le_of_ble_eq_true rfl) d_Fil_tellBytes_116) hD hS (fun H locs hP hD hS => ?_)
  exact v_Fil_tellBytes_119_1 X hk44 hP hD hS (lv_sub hl [0, 1, 2, 3, 4] rfl) h
set_option maxHeartbeats 4000000 in
set_option maxRecDepth 100000 in
theorem v_Fil_tellBytes_44_1 {p : Program} {l : Launch} {e : Env} {s : State} {m : MethodId} {args : Array Value} {below : List Frame} {meth : Method} {c : Code} {D : va_G} {ad : Nat → Nat} {ca : Nat → ClassId} {A : Nat → Prop} {FU : Nat} {q : Int32 × St} (X : FX p s m meth c prog_5_method_3_code 7 (some .int) "FlashFiles$Files" D (tyF ca) A) : ∀ (n : Nat), ∀ (y2 y5 y6 : Int32) (g : St) (H : Heap) (locs : List Loc) (ls : Array Slot), va_P D cls (wF ad ca g) H → va_D A (wF ad ca g) → va_S A s.heap H locs → lv_has ls 7 [(0, .ref (ad 6)), (2, .int y2), (4, .ref (ad 2)), (5, .int y5), (6, .int y6)] → Fil_tellBytes_b44 FU 1 n y2 y5 y6 g = some q → W p l e (rmN 7) s m args below meth c H locs 0 0 (MQ below (fxQi D (tyF ca) A (wF ad ca q.2) q.1) args s 0 0 A) (F0 m 44 ls []) := by
  have hx := X.1
  have hb := X.2.1
  intro n
  induction n with
  | zero =>
    intro y2 y5 y6 g H locs ls hP hD hS hl h
    cases h
  | succ n ih =>
    intro y2 y5 y6 g H locs ls hP hD hS hl h
    have h := h
    rw [Fil_tellBytes_b44.eq_2] at h
    refine lv_iload hx hb d_Fil_tellBytes_44 (lv_at hl 4 rfl) ?_
    refine lv_iload hx hb d_Fil_tellBytes_46 (lv_at hl 3 rfl) ?_
    refine lv_icmp_ge (tgt := 144) hx hb d_Fil_tellBytes_48 (by decide) (fun hc => ?_) (fun hc => ?_)
    · have h := if_t hc h
      refine lv_aload hx hb d_Fil_tellBytes_144 (lv_at hl 2 rfl) ?_
      obtain ⟨v6, e1, h⟩ := bd_some h
      refine fx_i X (fx_runV (As := []) X (m_Row_length_1 e1 _) hP hD kv_Fil_98 ⟨Nat.le_of_ble_eq_true rfl, Nat.le_of_ble_eq_true rfl⟩ 2 rfl rfl rfl hl.1 rfl (Nat.le_of_ble_eq_true rfl) d_Fil_tellBytes_146) hD hS (fun H locs hP hD hS => ?_)
      cases h
      exact fx_iret X hP hD hS d_Fil_tellBytes_149
    · have h := if_f hc h
      refine lv_aload_n hx hb d_Fil_tellBytes_51 rfl (lv_at hl 0 rfl) ?_
      refine gF_fil_inode X hP d_Fil_tellBytes_52 ?_
      refine lv_iconst (v := 3) hx hb d_Fil_tellBytes_55 (by decide) ?_
      obtain ⟨v7, e1, h⟩ := bd_some h
      refine rF_13 X hP e1 d_Fil_tellBytes_56 ?_
      refine lv_iconst (v := 1) hx hb d_Fil_tellBytes_57 (by decide) ?_
      refine lv_icmp_ne (tgt := 80) hx hb d_Fil_tellBytes_58 (by decide) (fun hc => ?_) (fun hc => ?_)
      · have h := if_f hc h
        refine lv_iload hx hb d_Fil_tellBytes_80 (lv_at hl 4 rfl) ?_
        refine lv_iload_n hx hb d_Fil_tellBytes_82 rfl (lv_at hl 1 rfl) ?_
        refine lv_icmp_eq (tgt := 95) hx hb d_Fil_tellBytes_83 (by decide) (fun hc => ?_) (fun hc => ?_)
        · have h := if_t hc h
          exact v_Fil_tellBytes_95_1 X ih hP hD hS (lv_sub hl [0, 1, 2, 3, 4] rfl) h
        · have h := if_f hc h
          refine lv_iload hx hb d_Fil_tellBytes_86 (lv_at hl 4 rfl) ?_
          refine lv_sipush (v := 256) hx hb d_Fil_tellBytes_88 (by decide) ?_
          refine lv_irem hx hb d_Fil_tellBytes_91 (by decide) ?_
          refine lv_if_ne (tgt := 119) hx hb d_Fil_tellBytes_92 (by decide) (fun hc => ?_) (fun hc => ?_)
          · have h := if_f hc h
            exact v_Fil_tellBytes_119_1 X ih hP hD hS (lv_sub hl [0, 1, 2, 3, 4] rfl) h
          · have h := if_t hc h
            exact v_Fil_tellBytes_95_1 X ih hP hD hS (lv_sub hl [0, 1, 2, 3, 4] rfl) h
      · have h := if_t hc h
        refine lv_aload hx hb d_Fil_tellBytes_61 (lv_at hl 2 rfl) ?_
        refine lv_aload_n hx hb d_Fil_tellBytes_63 rfl (lv_at hl 0 rfl) ?_
        refine gF_fil_inode X hP d_Fil_tellBytes_64 ?_
        refine lv_bipush (v := 30) hx hb d_Fil_tellBytes_67 (by decide) ?_
        refine lv_iload hx hb d_Fil_tellBytes_69 (lv_at hl 4 rfl) ?_
        obtain ⟨v8, e1, h⟩ := bd_some h
        refine fx_i X (fx_runN X (m_FF_getByte_13 e1 _) (As := [.ref (ad 24), .int (30 : Int32), .int y6]) hP hD kn_Fil_85 ⟨Nat.le_of_ble_eq_true rfl, Nat.le_of_ble_eq_true rfl⟩ rfl hl.1 rfl (Nat.le_of_ble_eq_true rfl) d_Fil_tellBytes_71) hD hS (fun H locs hP hD hS => ?_)
        obtain ⟨p9, e1, h⟩ := bd_some h
        refine fx_v X (fx_runV (As := [.int v8]) X (m_Row_add_1 e1 _) hP hD kv_Fil_89 ⟨Nat.le_of_ble_eq_true rfl, Nat.le_of_ble_eq_true rfl⟩ 2 rfl rfl rfl hl.1 rfl (Nat.le_of_ble_eq_true rfl) d_Fil_tellBytes_74) hD hS (fun H locs hP hD hS => ?_)
        refine lv_goto (tgt := 138) hx hb d_Fil_tellBytes_77 (by decide) ?_
        exact v_Fil_tellBytes_138_1 X ih hP hD hS (lv_sub hl [0, 1, 2, 3, 4] rfl) h
set_option maxHeartbeats 4000000 in
set_option maxRecDepth 100000 in
theorem v_Fil_tellBytes_39_1 {p : Program} {l : Launch} {e : Env} {s : State} {m : MethodId} {args : Array Value} {below : List Frame} {meth : Method} {c : Code} {D : va_G} {ad : Nat → Nat} {ca : Nat → ClassId} {A : Nat → Prop} {FU : Nat} {q : Int32 × St} (X : FX p s m meth c prog_5_method_3_code 7 (some .int) "FlashFiles$Files" D (tyF ca) A) {y2 : Int32} {z0 : Int32} {g : St} {H : Heap} {locs : List Loc} {ls : Array Slot} (hP : va_P D cls (wF ad ca g) H) (hD : va_D A (wF ad ca g)) (hS : va_S A s.heap H locs) (hl : lv_has ls 7 [(0, .ref (ad 6)), (2, .int y2), (4, .ref (ad 2))]) (h : Fil_tellBytes_b39 FU 1 y2 z0 g = some q) : W p l e (rmN 7) s m args below meth c H locs 0 0 (MQ below (fxQi D (tyF ca) A (wF ad ca q.2) q.1) args s 0 0 A) (F0 m 39 ls [.int z0]) := by
  have hx := X.1
  have hb := X.2.1
  unfold Fil_tellBytes_b39 at h
  refine lv_istore hx hb d_Fil_tellBytes_39 hl (by decide) rfl (fun ls hl => ?_)
  have hl : lv_has ls 7 [(5, .int z0), (0, .ref (ad 6)), (2, .int y2), (4, .ref (ad 2))] := hl
  refine lv_iload_n hx hb d_Fil_tellBytes_41 rfl (lv_at hl 2 rfl) ?_
  refine lv_istore hx hb d_Fil_tellBytes_42 hl (by decide) rfl (fun ls hl => ?_)
  have hl : lv_has ls 7 [(6, .int y2), (5, .int z0), (0, .ref (ad 6)), (2, .int y2), (4, .ref (ad 2))] := hl
  exact v_Fil_tellBytes_44_1 X  _ _ _ _ _ _ _ _ hP hD hS (lv_sub hl [2, 3, 4, 1, 0] rfl) h
set_option maxHeartbeats 4000000 in
set_option maxRecDepth 100000 in
theorem m_Fil_tellBytes_1 {l : Launch} {D : va_G} {ad : Nat → Nat} {ca : Nat → ClassId} {FU : Nat} {x1 : Int32} {x2 : Int32} {x3 : Int32} {g : St} {q : Int32 × St} (h : Fil_tellBytes FU 1 x1 x2 x3 g = some q) : CI l ⟨"FlashFiles$Files", "tellBytes", "(IIILFlashFiles$Row;)I"⟩ prog_5_method_3_code 7 7 (some .int) D (tyF ca) (wF ad ca g) [.ref (ad 6), .int x1, .int x2, .int x3, .ref (ad 2)] q.1 (wF ad ca q.2) := by
  intro sz
  refine Met.fx (Qc := fun A => fxQi D (tyF ca) A (wF ad ca q.2) q.1) (by decide) (Nat.le_of_ble_eq_true rfl) ?_
  intro p e s m below meth c A ls X hP hD hl
  have hl : lv_has ls 7 [(0, .ref (ad 6)), (1, .int x1), (2, .int x2), (3, .int x3), (4, .ref (ad 2))] := hl
  have hS : va_S A s.heap s.heap [] := va_S.rf
  have hx := X.1
  have hb := X.2.1
  unfold Fil_tellBytes at h
  refine lv_aload_n hx hb d_Fil_tellBytes_0 rfl (lv_at hl 0 rfl) ?_
  refine lv_iload_n hx hb d_Fil_tellBytes_1 rfl (lv_at hl 1 rfl) ?_
  obtain ⟨p10, e1, h⟩ := bd_some h
  refine fx_v X (fx_runV (As := [.int x1]) X (m_Fil_begin e1 _) hP hD kv_Fil_36 ⟨Nat.le_of_ble_eq_true rfl, Nat.le_of_ble_eq_true rfl⟩ 6 rfl rfl rfl hl.1 rfl (Nat.le_of_ble_eq_true rfl) d_Fil_tellBytes_2) hD hS (fun H locs hP hD hS => ?_)
  refine lv_aload hx hb d_Fil_tellBytes_5 (lv_at hl 4 rfl) ?_
  refine lv_iconst (v := 0) hx hb d_Fil_tellBytes_7 (by decide) ?_
  obtain ⟨p11, e1, h⟩ := bd_some h
  refine fx_v X (fx_runV (As := [.int (0 : Int32)]) X (m_Row_setLength_1 e1 _) hP hD kv_Fil_79 ⟨Nat.le_of_ble_eq_true rfl, Nat.le_of_ble_eq_true rfl⟩ 2 rfl rfl rfl hl.1 rfl (Nat.le_of_ble_eq_true rfl) d_Fil_tellBytes_8) hD hS (fun H locs hP hD hS => ?_)
  refine lv_iload_n hx hb d_Fil_tellBytes_11 rfl (lv_at hl 2 rfl) ?_
  refine lv_aload_n hx hb d_Fil_tellBytes_12 rfl (lv_at hl 0 rfl) ?_
  refine gF_fil_inode X hP d_Fil_tellBytes_13 ?_
  refine lv_iconst (v := 1) hx hb d_Fil_tellBytes_16 (by decide) ?_
  obtain ⟨v12, e1, h⟩ := bd_some h
  refine rF_13 X hP e1 d_Fil_tellBytes_17 ?_
  refine lv_icmp_lt (tgt := 25) hx hb d_Fil_tellBytes_18 (by decide) (fun hc => ?_) (fun hc => ?_)
  · have h := if_t hc h
    refine lv_iload_n hx hb d_Fil_tellBytes_25 rfl (lv_at hl 2 rfl) ?_
    refine lv_iload_n hx hb d_Fil_tellBytes_26 rfl (lv_at hl 3 rfl) ?_
    refine lv_aload_n hx hb d_Fil_tellBytes_27 rfl (lv_at hl 0 rfl) ?_
    refine gF_fil_inode X hP d_Fil_tellBytes_28 ?_
    refine lv_iconst (v := 1) hx hb d_Fil_tellBytes_31 (by decide) ?_
    obtain ⟨v13, e1, h⟩ := bd_some h
    refine rF_13 X hP e1 d_Fil_tellBytes_32 ?_
    refine lv_iload_n hx hb d_Fil_tellBytes_33 rfl (lv_at hl 2 rfl) ?_
    refine lv_isub hx hb d_Fil_tellBytes_34 ?_
    refine va_mmin hx hb (X.2.2.1.trans hl.1.symm) X.2.2.2.2.2.1 (X.2.2.2.2.2.2.1.use q6_70) (X.2.2.2.2.2.2.1.use q2_193) (X.2.2.2.2.2.2.1.use q1_16) (X.2.2.2.2.2.2.1.use math_min) (Nat.le_of_ble_eq_true rfl) (Nat.le_of_ble_eq_true rfl) (Nat.zero_le _) (Nat.zero_le _) d_Fil_tellBytes_35 ?_
    refine lv_iadd hx hb d_Fil_tellBytes_38 ?_
    exact v_Fil_tellBytes_39_1 X  hP hD hS (lv_sub hl [0, 2, 4] rfl) h
  · have h := if_f hc h
    refine lv_iload_n hx hb d_Fil_tellBytes_21 rfl (lv_at hl 2 rfl) ?_
    refine lv_goto (tgt := 39) hx hb d_Fil_tellBytes_22 (by decide) ?_
    exact v_Fil_tellBytes_39_1 X  hP hD hS (lv_sub hl [0, 2, 4] rfl) h
