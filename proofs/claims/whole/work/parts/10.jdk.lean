theorem d_Arr_rangeCheck_0 : decode prog_28_method_30_code 0 = .ok (.iload_n 1, 1) := by decide +kernel
theorem d_Arr_rangeCheck_1 : decode prog_28_method_30_code 1 = .ok (.iload_n 2, 1) := by decide +kernel
theorem d_Arr_rangeCheck_2 : decode prog_28_method_30_code 2 = .ok (.if_icmp .le 44, 3) := by decide +kernel
theorem d_Arr_rangeCheck_46 : decode prog_28_method_30_code 46 = .ok (.iload_n 1, 1) := by decide +kernel
theorem d_Arr_rangeCheck_47 : decode prog_28_method_30_code 47 = .ok (.ifCond .ge 12, 3) := by decide +kernel
theorem d_Arr_rangeCheck_59 : decode prog_28_method_30_code 59 = .ok (.iload_n 2, 1) := by decide +kernel
theorem d_Arr_rangeCheck_60 : decode prog_28_method_30_code 60 = .ok (.iload_n 0, 1) := by decide +kernel
theorem d_Arr_rangeCheck_61 : decode prog_28_method_30_code 61 = .ok (.if_icmp .le 12, 3) := by decide +kernel
theorem d_Arr_rangeCheck_73 : decode prog_28_method_30_code 73 = .ok (.return_, 1) := by decide +kernel
set_option maxHeartbeats 4000000 in
set_option maxRecDepth 100000 in
theorem m_Arr_rangeCheck {l : Launch} {D : va_G} {ad : Nat → Nat} {ca : Nat → ClassId} {FU : Nat} {x0 : Int32} {x1 : Int32} {x2 : Int32} {g : St} {q : St} (h : Arr_rangeCheck FU x0 x1 x2 g = some q) : CV l ⟨"java/util/Arrays", "rangeCheck", "(III)V"⟩ prog_28_method_30_code 3 2 D (tyF ca) (wF ad ca g) [.int x0, .int x1, .int x2] (wF ad ca q) := by
  intro sz
  refine Met.fx (Qc := fun A => fxQv D (tyF ca) A (wF ad ca q)) (by decide) (Nat.le_of_ble_eq_true rfl) ?_
  intro p e s m below meth c A ls X hP hD hl
  have hl : lv_has ls 3 [(0, .int x0), (1, .int x1), (2, .int x2)] := hl
  have hS : va_S A s.heap s.heap [] := va_S.rf
  have hx := X.1
  have hb := X.2.1
  unfold Arr_rangeCheck at h
  refine lv_iload_n hx hb d_Arr_rangeCheck_0 rfl (lv_at hl 1 rfl) ?_
  refine lv_iload_n hx hb d_Arr_rangeCheck_1 rfl (lv_at hl 2 rfl) ?_
  refine lv_icmp_le (tgt := 46) hx hb d_Arr_rangeCheck_2 (by decide) (fun hc => ?_) (fun hc => ?_)
  · have h := if_t hc h
    refine lv_iload_n hx hb d_Arr_rangeCheck_46 rfl (lv_at hl 1 rfl) ?_
    refine lv_if_ge (tgt := 59) hx hb d_Arr_rangeCheck_47 (by decide) (fun hc => ?_) (fun hc => ?_)
    · have h := if_t hc h
      refine lv_iload_n hx hb d_Arr_rangeCheck_59 rfl (lv_at hl 2 rfl) ?_
      refine lv_iload_n hx hb d_Arr_rangeCheck_60 rfl (lv_at hl 0 rfl) ?_
      refine lv_icmp_le (tgt := 73) hx hb d_Arr_rangeCheck_61 (by decide) (fun hc => ?_) (fun hc => ?_)
      · have h := if_t hc h
        cases h
        exact fx_vret X hP hD hS d_Arr_rangeCheck_73
      · have h := if_f hc h
        cases h
    · have h := if_f hc h
      cases h
  · have h := if_f hc h
    cases h
theorem d_Arr_fill_1_0 : decode prog_28_method_104_code 0 = .ok (.aload_n 0, 1) := by decide +kernel
theorem d_Arr_fill_1_1 : decode prog_28_method_104_code 1 = .ok (.arraylength, 1) := by decide +kernel
theorem d_Arr_fill_1_2 : decode prog_28_method_104_code 2 = .ok (.iload_n 1, 1) := by decide +kernel
theorem d_Arr_fill_1_3 : decode prog_28_method_104_code 3 = .ok (.iload_n 2, 1) := by decide +kernel
theorem d_Arr_fill_1_4 : decode prog_28_method_104_code 4 = .ok (.invokestatic 13, 3) := by decide +kernel
theorem d_Arr_fill_1_7 : decode prog_28_method_104_code 7 = .ok (.iload_n 1, 1) := by decide +kernel
theorem d_Arr_fill_1_8 : decode prog_28_method_104_code 8 = .ok (.istore 4, 2) := by decide +kernel
theorem d_Arr_fill_1_10 : decode prog_28_method_104_code 10 = .ok (.iload 4, 2) := by decide +kernel
theorem d_Arr_fill_1_12 : decode prog_28_method_104_code 12 = .ok (.iload_n 2, 1) := by decide +kernel
theorem d_Arr_fill_1_13 : decode prog_28_method_104_code 13 = .ok (.if_icmp .ge 14, 3) := by decide +kernel
theorem d_Arr_fill_1_16 : decode prog_28_method_104_code 16 = .ok (.aload_n 0, 1) := by decide +kernel
theorem d_Arr_fill_1_17 : decode prog_28_method_104_code 17 = .ok (.iload 4, 2) := by decide +kernel
theorem d_Arr_fill_1_19 : decode prog_28_method_104_code 19 = .ok (.iload_n 3, 1) := by decide +kernel
theorem d_Arr_fill_1_20 : decode prog_28_method_104_code 20 = .ok (.iastore, 1) := by decide +kernel
theorem d_Arr_fill_1_21 : decode prog_28_method_104_code 21 = .ok (.iinc 4 1, 3) := by decide +kernel
theorem d_Arr_fill_1_24 : decode prog_28_method_104_code 24 = .ok (.goto (-14), 3) := by decide +kernel
theorem d_Arr_fill_1_27 : decode prog_28_method_104_code 27 = .ok (.return_, 1) := by decide +kernel
set_option maxHeartbeats 4000000 in
set_option maxRecDepth 100000 in
theorem v_Arr_fill_1_10_4 {p : Program} {l : Launch} {e : Env} {s : State} {m : MethodId} {args : Array Value} {below : List Frame} {meth : Method} {c : Code} {D : va_G} {ad : Nat → Nat} {ca : Nat → ClassId} {A : Nat → Prop} {FU : Nat} {q : St} (X : FX p s m meth c prog_28_method_104_code 5 none "java/util/Arrays" D (tyF ca) A) : ∀ (n : Nat), ∀ (y2 y3 y4 : Int32) (g : St) (H : Heap) (locs : List Loc) (ls : Array Slot), va_P D cls (wF ad ca g) H → va_D A (wF ad ca g) → va_S A s.heap H locs → lv_has ls 5 [(0, .ref (ad 15)), (2, .int y2), (3, .int y3), (4, .int y4)] → Arr_fill_1_b10 FU 4 n y2 y3 y4 g = some q → W p l e (rmN 3) s m args below meth c H locs 0 0 (MQ below (fxQv D (tyF ca) A (wF ad ca q)) args s 0 0 A) (F0 m 10 ls []) := by
  have hx := X.1
  have hb := X.2.1
  intro n
  induction n with
  | zero =>
    intro y2 y3 y4 g H locs ls hP hD hS hl h
    cases h
  | succ n ih =>
    intro y2 y3 y4 g H locs ls hP hD hS hl h
    have h := h
    rw [Arr_fill_1_b10.eq_2] at h
    refine lv_iload hx hb d_Arr_fill_1_10 (lv_at hl 3 rfl) ?_
    refine lv_iload_n hx hb d_Arr_fill_1_12 rfl (lv_at hl 1 rfl) ?_
    refine lv_icmp_ge (tgt := 27) hx hb d_Arr_fill_1_13 (by decide) (fun hc => ?_) (fun hc => ?_)
    · have h := if_t hc h
      cases h
      exact fx_vret X hP hD hS d_Arr_fill_1_27
    · have h := if_f hc h
      refine lv_aload_n hx hb d_Arr_fill_1_16 rfl (lv_at hl 0 rfl) ?_
      refine lv_iload hx hb d_Arr_fill_1_17 (lv_at hl 3 rfl) ?_
      refine lv_iload_n hx hb d_Arr_fill_1_19 rfl (lv_at hl 2 rfl) ?_
      obtain ⟨g1, e1, h⟩ := bd_some h
      refine sF_4 X hP hD hS e1 d_Arr_fill_1_20 (fun H locs hP hD hS => ?_)
      refine lv_iinc (k := 3) (v := (y4 + (1 : Int32))) hx hb d_Arr_fill_1_21 hl rfl (oi_1 _) (by decide) rfl (fun ls hl => ?_)
      have hl : lv_has ls 5 [(4, .int (y4 + (1 : Int32))), (0, .ref (ad 15)), (2, .int y2), (3, .int y3)] := hl
      refine lv_goto (tgt := 10) hx hb d_Arr_fill_1_24 (by decide) ?_
      exact ih _ _ _ _ _ _ _ hP hD hS (lv_sub hl [1, 2, 3, 0] rfl) h
set_option maxHeartbeats 4000000 in
set_option maxRecDepth 100000 in
theorem m_Arr_fill_1_4 {l : Launch} {D : va_G} {ad : Nat → Nat} {ca : Nat → ClassId} {FU : Nat} {x1 : Int32} {x2 : Int32} {x3 : Int32} {g : St} {q : St} (h : Arr_fill_1 FU 4 x1 x2 x3 g = some q) : CV l ⟨"java/util/Arrays", "fill", "([IIII)V"⟩ prog_28_method_104_code 5 3 D (tyF ca) (wF ad ca g) [.ref (ad 15), .int x1, .int x2, .int x3] (wF ad ca q) := by
  intro sz
  refine Met.fx (Qc := fun A => fxQv D (tyF ca) A (wF ad ca q)) (by decide) (Nat.le_of_ble_eq_true rfl) ?_
  intro p e s m below meth c A ls X hP hD hl
  have hl : lv_has ls 5 [(0, .ref (ad 15)), (1, .int x1), (2, .int x2), (3, .int x3)] := hl
  have hS : va_S A s.heap s.heap [] := va_S.rf
  have hx := X.1
  have hb := X.2.1
  unfold Arr_fill_1 at h
  refine lv_aload_n hx hb d_Arr_fill_1_0 rfl (lv_at hl 0 rfl) ?_
  refine va_alen (v := (nI (lenF 4))) hx hb X.2.2.2.2.2.2.2.1 hP 15 4 rfl rfl rfl d_Arr_fill_1_1 ?_
  refine lv_iload_n hx hb d_Arr_fill_1_2 rfl (lv_at hl 1 rfl) ?_
  refine lv_iload_n hx hb d_Arr_fill_1_3 rfl (lv_at hl 2 rfl) ?_
  obtain ⟨p2, e1, h⟩ := bd_some h
  refine fx_v X (fx_runS X (m_Arr_rangeCheck e1 _) (As := [.int (nI (lenF 4)), .int x1, .int x2]) hP hD ks_Arr_13 ⟨Nat.le_of_ble_eq_true rfl, Nat.le_of_ble_eq_true rfl⟩ rfl hl.1 rfl (Nat.le_of_ble_eq_true rfl) d_Arr_fill_1_4) hD hS (fun H locs hP hD hS => ?_)
  refine lv_iload_n hx hb d_Arr_fill_1_7 rfl (lv_at hl 1 rfl) ?_
  refine lv_istore hx hb d_Arr_fill_1_8 hl (by decide) rfl (fun ls hl => ?_)
  have hl : lv_has ls 5 [(4, .int x1), (0, .ref (ad 15)), (1, .int x1), (2, .int x2), (3, .int x3)] := hl
  exact v_Arr_fill_1_10_4 X  _ _ _ _ _ _ _ _ hP hD hS (lv_sub hl [1, 3, 4, 0] rfl) h
theorem d_Arr_fill_0_0 : decode prog_28_method_103_code 0 = .ok (.iconst 0, 1) := by decide +kernel
theorem d_Arr_fill_0_1 : decode prog_28_method_103_code 1 = .ok (.istore_n 2, 1) := by decide +kernel
theorem d_Arr_fill_0_2 : decode prog_28_method_103_code 2 = .ok (.aload_n 0, 1) := by decide +kernel
theorem d_Arr_fill_0_3 : decode prog_28_method_103_code 3 = .ok (.arraylength, 1) := by decide +kernel
theorem d_Arr_fill_0_4 : decode prog_28_method_103_code 4 = .ok (.istore_n 3, 1) := by decide +kernel
theorem d_Arr_fill_0_5 : decode prog_28_method_103_code 5 = .ok (.iload_n 2, 1) := by decide +kernel
theorem d_Arr_fill_0_6 : decode prog_28_method_103_code 6 = .ok (.iload_n 3, 1) := by decide +kernel
theorem d_Arr_fill_0_7 : decode prog_28_method_103_code 7 = .ok (.if_icmp .ge 13, 3) := by decide +kernel
theorem d_Arr_fill_0_10 : decode prog_28_method_103_code 10 = .ok (.aload_n 0, 1) := by decide +kernel
theorem d_Arr_fill_0_11 : decode prog_28_method_103_code 11 = .ok (.iload_n 2, 1) := by decide +kernel
theorem d_Arr_fill_0_12 : decode prog_28_method_103_code 12 = .ok (.iload_n 1, 1) := by decide +kernel
theorem d_Arr_fill_0_13 : decode prog_28_method_103_code 13 = .ok (.iastore, 1) := by decide +kernel
theorem d_Arr_fill_0_14 : decode prog_28_method_103_code 14 = .ok (.iinc 2 1, 3) := by decide +kernel
theorem d_Arr_fill_0_17 : decode prog_28_method_103_code 17 = .ok (.goto (-12), 3) := by decide +kernel
theorem d_Arr_fill_0_20 : decode prog_28_method_103_code 20 = .ok (.return_, 1) := by decide +kernel
set_option maxHeartbeats 4000000 in
set_option maxRecDepth 100000 in
theorem v_Arr_fill_0_5_6 {p : Program} {l : Launch} {e : Env} {s : State} {m : MethodId} {args : Array Value} {below : List Frame} {meth : Method} {c : Code} {D : va_G} {ad : Nat → Nat} {ca : Nat → ClassId} {A : Nat → Prop} {FU : Nat} {q : St} (X : FX p s m meth c prog_28_method_103_code 4 none "java/util/Arrays" D (tyF ca) A) : ∀ (n : Nat), ∀ (y1 y2 y3 : Int32) (g : St) (H : Heap) (locs : List Loc) (ls : Array Slot), va_P D cls (wF ad ca g) H → va_D A (wF ad ca g) → va_S A s.heap H locs → lv_has ls 4 [(0, .ref (ad 17)), (1, .int y1), (2, .int y2), (3, .int y3)] → Arr_fill_0_b5 FU 6 n y1 y2 y3 g = some q → W p l e (rmN 1) s m args below meth c H locs 0 0 (MQ below (fxQv D (tyF ca) A (wF ad ca q)) args s 0 0 A) (F0 m 5 ls []) := by
  have hx := X.1
  have hb := X.2.1
  intro n
  induction n with
  | zero =>
    intro y1 y2 y3 g H locs ls hP hD hS hl h
    cases h
  | succ n ih =>
    intro y1 y2 y3 g H locs ls hP hD hS hl h
    have h := h
    rw [Arr_fill_0_b5.eq_2] at h
    refine lv_iload_n hx hb d_Arr_fill_0_5 rfl (lv_at hl 2 rfl) ?_
    refine lv_iload_n hx hb d_Arr_fill_0_6 rfl (lv_at hl 3 rfl) ?_
    refine lv_icmp_ge (tgt := 20) hx hb d_Arr_fill_0_7 (by decide) (fun hc => ?_) (fun hc => ?_)
    · have h := if_t hc h
      cases h
      exact fx_vret X hP hD hS d_Arr_fill_0_20
    · have h := if_f hc h
      refine lv_aload_n hx hb d_Arr_fill_0_10 rfl (lv_at hl 0 rfl) ?_
      refine lv_iload_n hx hb d_Arr_fill_0_11 rfl (lv_at hl 2 rfl) ?_
      refine lv_iload_n hx hb d_Arr_fill_0_12 rfl (lv_at hl 1 rfl) ?_
      obtain ⟨g1, e1, h⟩ := bd_some h
      refine sF_6 X hP hD hS e1 d_Arr_fill_0_13 (fun H locs hP hD hS => ?_)
      refine lv_iinc (k := 2) (v := (y2 + (1 : Int32))) hx hb d_Arr_fill_0_14 hl rfl (oi_1 _) (by decide) rfl (fun ls hl => ?_)
      have hl : lv_has ls 4 [(2, .int (y2 + (1 : Int32))), (0, .ref (ad 17)), (1, .int y1), (3, .int y3)] := hl
      refine lv_goto (tgt := 5) hx hb d_Arr_fill_0_17 (by decide) ?_
      exact ih _ _ _ _ _ _ _ hP hD hS (lv_sub hl [1, 2, 0, 3] rfl) h
set_option maxHeartbeats 4000000 in
set_option maxRecDepth 100000 in
theorem m_Arr_fill_0_6 {l : Launch} {D : va_G} {ad : Nat → Nat} {ca : Nat → ClassId} {FU : Nat} {x1 : Int32} {g : St} {q : St} (h : Arr_fill_0 FU 6 x1 g = some q) : CV l ⟨"java/util/Arrays", "fill", "([II)V"⟩ prog_28_method_103_code 4 1 D (tyF ca) (wF ad ca g) [.ref (ad 17), .int x1] (wF ad ca q) := by
  intro sz
  refine Met.fx (Qc := fun A => fxQv D (tyF ca) A (wF ad ca q)) (by decide) (Nat.le_of_ble_eq_true rfl) ?_
  intro p e s m below meth c A ls X hP hD hl
  have hl : lv_has ls 4 [(0, .ref (ad 17)), (1, .int x1)] := hl
  have hS : va_S A s.heap s.heap [] := va_S.rf
  have hx := X.1
  have hb := X.2.1
  unfold Arr_fill_0 at h
  refine lv_iconst (v := 0) hx hb d_Arr_fill_0_0 (by decide) ?_
  refine lv_istore_n hx hb d_Arr_fill_0_1 rfl hl (by decide) rfl (fun ls hl => ?_)
  have hl : lv_has ls 4 [(2, .int (0 : Int32)), (0, .ref (ad 17)), (1, .int x1)] := hl
  refine lv_aload_n hx hb d_Arr_fill_0_2 rfl (lv_at hl 1 rfl) ?_
  refine va_alen (v := (nI (lenF 6))) hx hb X.2.2.2.2.2.2.2.1 hP 17 6 rfl rfl rfl d_Arr_fill_0_3 ?_
  refine lv_istore_n hx hb d_Arr_fill_0_4 rfl hl (by decide) rfl (fun ls hl => ?_)
  have hl : lv_has ls 4 [(3, .int (nI (lenF 6))), (2, .int (0 : Int32)), (0, .ref (ad 17)), (1, .int x1)] := hl
  exact v_Arr_fill_0_5_6 X  _ _ _ _ _ _ _ _ hP hD hS (lv_sub hl [2, 3, 1, 0] rfl) h
set_option maxHeartbeats 4000000 in
set_option maxRecDepth 100000 in
theorem v_Arr_fill_1_10_6 {p : Program} {l : Launch} {e : Env} {s : State} {m : MethodId} {args : Array Value} {below : List Frame} {meth : Method} {c : Code} {D : va_G} {ad : Nat → Nat} {ca : Nat → ClassId} {A : Nat → Prop} {FU : Nat} {q : St} (X : FX p s m meth c prog_28_method_104_code 5 none "java/util/Arrays" D (tyF ca) A) : ∀ (n : Nat), ∀ (y2 y3 y4 : Int32) (g : St) (H : Heap) (locs : List Loc) (ls : Array Slot), va_P D cls (wF ad ca g) H → va_D A (wF ad ca g) → va_S A s.heap H locs → lv_has ls 5 [(0, .ref (ad 17)), (2, .int y2), (3, .int y3), (4, .int y4)] → Arr_fill_1_b10 FU 6 n y2 y3 y4 g = some q → W p l e (rmN 3) s m args below meth c H locs 0 0 (MQ below (fxQv D (tyF ca) A (wF ad ca q)) args s 0 0 A) (F0 m 10 ls []) := by
  have hx := X.1
  have hb := X.2.1
  intro n
  induction n with
  | zero =>
    intro y2 y3 y4 g H locs ls hP hD hS hl h
    cases h
  | succ n ih =>
    intro y2 y3 y4 g H locs ls hP hD hS hl h
    have h := h
    rw [Arr_fill_1_b10.eq_2] at h
    refine lv_iload hx hb d_Arr_fill_1_10 (lv_at hl 3 rfl) ?_
    refine lv_iload_n hx hb d_Arr_fill_1_12 rfl (lv_at hl 1 rfl) ?_
    refine lv_icmp_ge (tgt := 27) hx hb d_Arr_fill_1_13 (by decide) (fun hc => ?_) (fun hc => ?_)
    · have h := if_t hc h
      cases h
      exact fx_vret X hP hD hS d_Arr_fill_1_27
    · have h := if_f hc h
      refine lv_aload_n hx hb d_Arr_fill_1_16 rfl (lv_at hl 0 rfl) ?_
      refine lv_iload hx hb d_Arr_fill_1_17 (lv_at hl 3 rfl) ?_
      refine lv_iload_n hx hb d_Arr_fill_1_19 rfl (lv_at hl 2 rfl) ?_
      obtain ⟨g1, e1, h⟩ := bd_some h
      refine sF_6 X hP hD hS e1 d_Arr_fill_1_20 (fun H locs hP hD hS => ?_)
      refine lv_iinc (k := 3) (v := (y4 + (1 : Int32))) hx hb d_Arr_fill_1_21 hl rfl (oi_1 _) (by decide) rfl (fun ls hl => ?_)
      have hl : lv_has ls 5 [(4, .int (y4 + (1 : Int32))), (0, .ref (ad 17)), (2, .int y2), (3, .int y3)] := hl
      refine lv_goto (tgt := 10) hx hb d_Arr_fill_1_24 (by decide) ?_
      exact ih _ _ _ _ _ _ _ hP hD hS (lv_sub hl [1, 2, 3, 0] rfl) h
set_option maxHeartbeats 4000000 in
set_option maxRecDepth 100000 in
theorem m_Arr_fill_1_6 {l : Launch} {D : va_G} {ad : Nat → Nat} {ca : Nat → ClassId} {FU : Nat} {x1 : Int32} {x2 : Int32} {x3 : Int32} {g : St} {q : St} (h : Arr_fill_1 FU 6 x1 x2 x3 g = some q) : CV l ⟨"java/util/Arrays", "fill", "([IIII)V"⟩ prog_28_method_104_code 5 3 D (tyF ca) (wF ad ca g) [.ref (ad 17), .int x1, .int x2, .int x3] (wF ad ca q) := by
  intro sz
  refine Met.fx (Qc := fun A => fxQv D (tyF ca) A (wF ad ca q)) (by decide) (Nat.le_of_ble_eq_true rfl) ?_
  intro p e s m below meth c A ls X hP hD hl
  have hl : lv_has ls 5 [(0, .ref (ad 17)), (1, .int x1), (2, .int x2), (3, .int x3)] := hl
  have hS : va_S A s.heap s.heap [] := va_S.rf
  have hx := X.1
  have hb := X.2.1
  unfold Arr_fill_1 at h
  refine lv_aload_n hx hb d_Arr_fill_1_0 rfl (lv_at hl 0 rfl) ?_
  refine va_alen (v := (nI (lenF 6))) hx hb X.2.2.2.2.2.2.2.1 hP 17 6 rfl rfl rfl d_Arr_fill_1_1 ?_
  refine lv_iload_n hx hb d_Arr_fill_1_2 rfl (lv_at hl 1 rfl) ?_
  refine lv_iload_n hx hb d_Arr_fill_1_3 rfl (lv_at hl 2 rfl) ?_
  obtain ⟨p2, e1, h⟩ := bd_some h
  refine fx_v X (fx_runS X (m_Arr_rangeCheck e1 _) (As := [.int (nI (lenF 6)), .int x1, .int x2]) hP hD ks_Arr_13 ⟨Nat.le_of_ble_eq_true rfl, Nat.le_of_ble_eq_true rfl⟩ rfl hl.1 rfl (Nat.le_of_ble_eq_true rfl) d_Arr_fill_1_4) hD hS (fun H locs hP hD hS => ?_)
  refine lv_iload_n hx hb d_Arr_fill_1_7 rfl (lv_at hl 1 rfl) ?_
  refine lv_istore hx hb d_Arr_fill_1_8 hl (by decide) rfl (fun ls hl => ?_)
  have hl : lv_has ls 5 [(4, .int x1), (0, .ref (ad 17)), (1, .int x1), (2, .int x2), (3, .int x3)] := hl
  exact v_Arr_fill_1_10_6 X  _ _ _ _ _ _ _ _ hP hD hS (lv_sub hl [1, 3, 4, 0] rfl) h
set_option maxHeartbeats 4000000 in
set_option maxRecDepth 100000 in
theorem v_Arr_fill_0_5_10 {p : Program} {l : Launch} {e : Env} {s : State} {m : MethodId} {args : Array Value} {below : List Frame} {meth : Method} {c : Code} {D : va_G} {ad : Nat → Nat} {ca : Nat → ClassId} {A : Nat → Prop} {FU : Nat} {q : St} (X : FX p s m meth c prog_28_method_103_code 4 none "java/util/Arrays" D (tyF ca) A) : ∀ (n : Nat), ∀ (y1 y2 y3 : Int32) (g : St) (H : Heap) (locs : List Loc) (ls : Array Slot), va_P D cls (wF ad ca g) H → va_D A (wF ad ca g) → va_S A s.heap H locs → lv_has ls 4 [(0, .ref (ad 21)), (1, .int y1), (2, .int y2), (3, .int y3)] → Arr_fill_0_b5 FU 10 n y1 y2 y3 g = some q → W p l e (rmN 1) s m args below meth c H locs 0 0 (MQ below (fxQv D (tyF ca) A (wF ad ca q)) args s 0 0 A) (F0 m 5 ls []) := by
  have hx := X.1
  have hb := X.2.1
  intro n
  induction n with
  | zero =>
    intro y1 y2 y3 g H locs ls hP hD hS hl h
    cases h
  | succ n ih =>
    intro y1 y2 y3 g H locs ls hP hD hS hl h
    have h := h
    rw [Arr_fill_0_b5.eq_2] at h
    refine lv_iload_n hx hb d_Arr_fill_0_5 rfl (lv_at hl 2 rfl) ?_
    refine lv_iload_n hx hb d_Arr_fill_0_6 rfl (lv_at hl 3 rfl) ?_
    refine lv_icmp_ge (tgt := 20) hx hb d_Arr_fill_0_7 (by decide) (fun hc => ?_) (fun hc => ?_)
    · have h := if_t hc h
      cases h
      exact fx_vret X hP hD hS d_Arr_fill_0_20
    · have h := if_f hc h
      refine lv_aload_n hx hb d_Arr_fill_0_10 rfl (lv_at hl 0 rfl) ?_
      refine lv_iload_n hx hb d_Arr_fill_0_11 rfl (lv_at hl 2 rfl) ?_
      refine lv_iload_n hx hb d_Arr_fill_0_12 rfl (lv_at hl 1 rfl) ?_
      obtain ⟨g1, e1, h⟩ := bd_some h
      refine sF_10 X hP hD hS e1 d_Arr_fill_0_13 (fun H locs hP hD hS => ?_)
      refine lv_iinc (k := 2) (v := (y2 + (1 : Int32))) hx hb d_Arr_fill_0_14 hl rfl (oi_1 _) (by decide) rfl (fun ls hl => ?_)
      have hl : lv_has ls 4 [(2, .int (y2 + (1 : Int32))), (0, .ref (ad 21)), (1, .int y1), (3, .int y3)] := hl
      refine lv_goto (tgt := 5) hx hb d_Arr_fill_0_17 (by decide) ?_
      exact ih _ _ _ _ _ _ _ hP hD hS (lv_sub hl [1, 2, 0, 3] rfl) h
set_option maxHeartbeats 4000000 in
set_option maxRecDepth 100000 in
theorem m_Arr_fill_0_10 {l : Launch} {D : va_G} {ad : Nat → Nat} {ca : Nat → ClassId} {FU : Nat} {x1 : Int32} {g : St} {q : St} (h : Arr_fill_0 FU 10 x1 g = some q) : CV l ⟨"java/util/Arrays", "fill", "([II)V"⟩ prog_28_method_103_code 4 1 D (tyF ca) (wF ad ca g) [.ref (ad 21), .int x1] (wF ad ca q) := by
  intro sz
  refine Met.fx (Qc := fun A => fxQv D (tyF ca) A (wF ad ca q)) (by decide) (Nat.le_of_ble_eq_true rfl) ?_
  intro p e s m below meth c A ls X hP hD hl
  have hl : lv_has ls 4 [(0, .ref (ad 21)), (1, .int x1)] := hl
  have hS : va_S A s.heap s.heap [] := va_S.rf
  have hx := X.1
  have hb := X.2.1
  unfold Arr_fill_0 at h
  refine lv_iconst (v := 0) hx hb d_Arr_fill_0_0 (by decide) ?_
  refine lv_istore_n hx hb d_Arr_fill_0_1 rfl hl (by decide) rfl (fun ls hl => ?_)
  have hl : lv_has ls 4 [(2, .int (0 : Int32)), (0, .ref (ad 21)), (1, .int x1)] := hl
  refine lv_aload_n hx hb d_Arr_fill_0_2 rfl (lv_at hl 1 rfl) ?_
  refine va_alen (v := (nI (lenF 10))) hx hb X.2.2.2.2.2.2.2.1 hP 21 10 rfl rfl rfl d_Arr_fill_0_3 ?_
  refine lv_istore_n hx hb d_Arr_fill_0_4 rfl hl (by decide) rfl (fun ls hl => ?_)
  have hl : lv_has ls 4 [(3, .int (nI (lenF 10))), (2, .int (0 : Int32)), (0, .ref (ad 21)), (1, .int x1)] := hl
  exact v_Arr_fill_0_5_10 X  _ _ _ _ _ _ _ _ hP hD hS (lv_sub hl [2, 3, 1, 0] rfl) h
set_option maxHeartbeats 4000000 in
set_option maxRecDepth 100000 in
theorem v_Arr_fill_0_5_11 {p : Program} {l : Launch} {e : Env} {s : State} {m : MethodId} {args : Array Value} {below : List Frame} {meth : Method} {c : Code} {D : va_G} {ad : Nat → Nat} {ca : Nat → ClassId} {A : Nat → Prop} {FU : Nat} {q : St} (X : FX p s m meth c prog_28_method_103_code 4 none "java/util/Arrays" D (tyF ca) A) : ∀ (n : Nat), ∀ (y1 y2 y3 : Int32) (g : St) (H : Heap) (locs : List Loc) (ls : Array Slot), va_P D cls (wF ad ca g) H → va_D A (wF ad ca g) → va_S A s.heap H locs → lv_has ls 4 [(0, .ref (ad 22)), (1, .int y1), (2, .int y2), (3, .int y3)] → Arr_fill_0_b5 FU 11 n y1 y2 y3 g = some q → W p l e (rmN 1) s m args below meth c H locs 0 0 (MQ below (fxQv D (tyF ca) A (wF ad ca q)) args s 0 0 A) (F0 m 5 ls []) := by
  have hx := X.1
  have hb := X.2.1
  intro n
  induction n with
  | zero =>
    intro y1 y2 y3 g H locs ls hP hD hS hl h
    cases h
  | succ n ih =>
    intro y1 y2 y3 g H locs ls hP hD hS hl h
    have h := h
    rw [Arr_fill_0_b5.eq_2] at h
    refine lv_iload_n hx hb d_Arr_fill_0_5 rfl (lv_at hl 2 rfl) ?_
    refine lv_iload_n hx hb d_Arr_fill_0_6 rfl (lv_at hl 3 rfl) ?_
    refine lv_icmp_ge (tgt := 20) hx hb d_Arr_fill_0_7 (by decide) (fun hc => ?_) (fun hc => ?_)
    · have h := if_t hc h
      cases h
      exact fx_vret X hP hD hS d_Arr_fill_0_20
    · have h := if_f hc h
      refine lv_aload_n hx hb d_Arr_fill_0_10 rfl (lv_at hl 0 rfl) ?_
      refine lv_iload_n hx hb d_Arr_fill_0_11 rfl (lv_at hl 2 rfl) ?_
      refine lv_iload_n hx hb d_Arr_fill_0_12 rfl (lv_at hl 1 rfl) ?_
      obtain ⟨g1, e1, h⟩ := bd_some h
      refine sF_11 X hP hD hS e1 d_Arr_fill_0_13 (fun H locs hP hD hS => ?_)
      refine lv_iinc (k := 2) (v := (y2 + (1 : Int32))) hx hb d_Arr_fill_0_14 hl rfl (oi_1 _) (by decide) rfl (fun ls hl => ?_)
      have hl : lv_has ls 4 [(2, .int (y2 + (1 : Int32))), (0, .ref (ad 22)), (1, .int y1), (3, .int y3)] := hl
      refine lv_goto (tgt := 5) hx hb d_Arr_fill_0_17 (by decide) ?_
      exact ih _ _ _ _ _ _ _ hP hD hS (lv_sub hl [1, 2, 0, 3] rfl) h
set_option maxHeartbeats 4000000 in
set_option maxRecDepth 100000 in
theorem m_Arr_fill_0_11 {l : Launch} {D : va_G} {ad : Nat → Nat} {ca : Nat → ClassId} {FU : Nat} {x1 : Int32} {g : St} {q : St} (h : Arr_fill_0 FU 11 x1 g = some q) : CV l ⟨"java/util/Arrays", "fill", "([II)V"⟩ prog_28_method_103_code 4 1 D (tyF ca) (wF ad ca g) [.ref (ad 22), .int x1] (wF ad ca q) := by
  intro sz
  refine Met.fx (Qc := fun A => fxQv D (tyF ca) A (wF ad ca q)) (by decide) (Nat.le_of_ble_eq_true rfl) ?_
  intro p e s m below meth c A ls X hP hD hl
  have hl : lv_has ls 4 [(0, .ref (ad 22)), (1, .int x1)] := hl
  have hS : va_S A s.heap s.heap [] := va_S.rf
  have hx := X.1
  have hb := X.2.1
  unfold Arr_fill_0 at h
  refine lv_iconst (v := 0) hx hb d_Arr_fill_0_0 (by decide) ?_
  refine lv_istore_n hx hb d_Arr_fill_0_1 rfl hl (by decide) rfl (fun ls hl => ?_)
  have hl : lv_has ls 4 [(2, .int (0 : Int32)), (0, .ref (ad 22)), (1, .int x1)] := hl
  refine lv_aload_n hx hb d_Arr_fill_0_2 rfl (lv_at hl 1 rfl) ?_
  refine va_alen (v := (nI (lenF 11))) hx hb X.2.2.2.2.2.2.2.1 hP 22 11 rfl rfl rfl d_Arr_fill_0_3 ?_
  refine lv_istore_n hx hb d_Arr_fill_0_4 rfl hl (by decide) rfl (fun ls hl => ?_)
  have hl : lv_has ls 4 [(3, .int (nI (lenF 11))), (2, .int (0 : Int32)), (0, .ref (ad 22)), (1, .int x1)] := hl
  exact v_Arr_fill_0_5_11 X  _ _ _ _ _ _ _ _ hP hD hS (lv_sub hl [2, 3, 1, 0] rfl) h
set_option maxHeartbeats 4000000 in
set_option maxRecDepth 100000 in
theorem v_Arr_fill_0_5_9 {p : Program} {l : Launch} {e : Env} {s : State} {m : MethodId} {args : Array Value} {below : List Frame} {meth : Method} {c : Code} {D : va_G} {ad : Nat → Nat} {ca : Nat → ClassId} {A : Nat → Prop} {FU : Nat} {q : St} (X : FX p s m meth c prog_28_method_103_code 4 none "java/util/Arrays" D (tyF ca) A) : ∀ (n : Nat), ∀ (y1 y2 y3 : Int32) (g : St) (H : Heap) (locs : List Loc) (ls : Array Slot), va_P D cls (wF ad ca g) H → va_D A (wF ad ca g) → va_S A s.heap H locs → lv_has ls 4 [(0, .ref (ad 20)), (1, .int y1), (2, .int y2), (3, .int y3)] → Arr_fill_0_b5 FU 9 n y1 y2 y3 g = some q → W p l e (rmN 1) s m args below meth c H locs 0 0 (MQ below (fxQv D (tyF ca) A (wF ad ca q)) args s 0 0 A) (F0 m 5 ls []) := by
  have hx := X.1
  have hb := X.2.1
  intro n
  induction n with
  | zero =>
    intro y1 y2 y3 g H locs ls hP hD hS hl h
    cases h
  | succ n ih =>
    intro y1 y2 y3 g H locs ls hP hD hS hl h
    have h := h
    rw [Arr_fill_0_b5.eq_2] at h
    refine lv_iload_n hx hb d_Arr_fill_0_5 rfl (lv_at hl 2 rfl) ?_
    refine lv_iload_n hx hb d_Arr_fill_0_6 rfl (lv_at hl 3 rfl) ?_
    refine lv_icmp_ge (tgt := 20) hx hb d_Arr_fill_0_7 (by decide) (fun hc => ?_) (fun hc => ?_)
    · have h := if_t hc h
      cases h
      exact fx_vret X hP hD hS d_Arr_fill_0_20
    · have h := if_f hc h
      refine lv_aload_n hx hb d_Arr_fill_0_10 rfl (lv_at hl 0 rfl) ?_
      refine lv_iload_n hx hb d_Arr_fill_0_11 rfl (lv_at hl 2 rfl) ?_
      refine lv_iload_n hx hb d_Arr_fill_0_12 rfl (lv_at hl 1 rfl) ?_
      obtain ⟨g1, e1, h⟩ := bd_some h
      refine sF_9 X hP hD hS e1 d_Arr_fill_0_13 (fun H locs hP hD hS => ?_)
      refine lv_iinc (k := 2) (v := (y2 + (1 : Int32))) hx hb d_Arr_fill_0_14 hl rfl (oi_1 _) (by decide) rfl (fun ls hl => ?_)
      have hl : lv_has ls 4 [(2, .int (y2 + (1 : Int32))), (0, .ref (ad 20)), (1, .int y1), (3, .int y3)] := hl
      refine lv_goto (tgt := 5) hx hb d_Arr_fill_0_17 (by decide) ?_
      exact ih _ _ _ _ _ _ _ hP hD hS (lv_sub hl [1, 2, 0, 3] rfl) h
set_option maxHeartbeats 4000000 in
set_option maxRecDepth 100000 in
theorem m_Arr_fill_0_9 {l : Launch} {D : va_G} {ad : Nat → Nat} {ca : Nat → ClassId} {FU : Nat} {x1 : Int32} {g : St} {q : St} (h : Arr_fill_0 FU 9 x1 g = some q) : CV l ⟨"java/util/Arrays", "fill", "([II)V"⟩ prog_28_method_103_code 4 1 D (tyF ca) (wF ad ca g) [.ref (ad 20), .int x1] (wF ad ca q) := by
  intro sz
  refine Met.fx (Qc := fun A => fxQv D (tyF ca) A (wF ad ca q)) (by decide) (Nat.le_of_ble_eq_true rfl) ?_
  intro p e s m below meth c A ls X hP hD hl
  have hl : lv_has ls 4 [(0, .ref (ad 20)), (1, .int x1)] := hl
  have hS : va_S A s.heap s.heap [] := va_S.rf
  have hx := X.1
  have hb := X.2.1
  unfold Arr_fill_0 at h
  refine lv_iconst (v := 0) hx hb d_Arr_fill_0_0 (by decide) ?_
  refine lv_istore_n hx hb d_Arr_fill_0_1 rfl hl (by decide) rfl (fun ls hl => ?_)
  have hl : lv_has ls 4 [(2, .int (0 : Int32)), (0, .ref (ad 20)), (1, .int x1)] := hl
  refine lv_aload_n hx hb d_Arr_fill_0_2 rfl (lv_at hl 1 rfl) ?_
  refine va_alen (v := (nI (lenF 9))) hx hb X.2.2.2.2.2.2.2.1 hP 20 9 rfl rfl rfl d_Arr_fill_0_3 ?_
  refine lv_istore_n hx hb d_Arr_fill_0_4 rfl hl (by decide) rfl (fun ls hl => ?_)
  have hl : lv_has ls 4 [(3, .int (nI (lenF 9))), (2, .int (0 : Int32)), (0, .ref (ad 20)), (1, .int x1)] := hl
  exact v_Arr_fill_0_5_9 X  _ _ _ _ _ _ _ _ hP hD hS (lv_sub hl [2, 3, 1, 0] rfl) h
set_option maxHeartbeats 4000000 in
set_option maxRecDepth 100000 in
theorem v_Arr_fill_0_5_14 {p : Program} {l : Launch} {e : Env} {s : State} {m : MethodId} {args : Array Value} {below : List Frame} {meth : Method} {c : Code} {D : va_G} {ad : Nat → Nat} {ca : Nat → ClassId} {A : Nat → Prop} {FU : Nat} {q : St} (X : FX p s m meth c prog_28_method_103_code 4 none "java/util/Arrays" D (tyF ca) A) : ∀ (n : Nat), ∀ (y1 y2 y3 : Int32) (g : St) (H : Heap) (locs : List Loc) (ls : Array Slot), va_P D cls (wF ad ca g) H → va_D A (wF ad ca g) → va_S A s.heap H locs → lv_has ls 4 [(0, .ref (ad 25)), (1, .int y1), (2, .int y2), (3, .int y3)] → Arr_fill_0_b5 FU 14 n y1 y2 y3 g = some q → W p l e (rmN 1) s m args below meth c H locs 0 0 (MQ below (fxQv D (tyF ca) A (wF ad ca q)) args s 0 0 A) (F0 m 5 ls []) := by
  have hx := X.1
  have hb := X.2.1
  intro n
  induction n with
  | zero =>
    intro y1 y2 y3 g H locs ls hP hD hS hl h
    cases h
  | succ n ih =>
    intro y1 y2 y3 g H locs ls hP hD hS hl h
    have h := h
    rw [Arr_fill_0_b5.eq_2] at h
    refine lv_iload_n hx hb d_Arr_fill_0_5 rfl (lv_at hl 2 rfl) ?_
    refine lv_iload_n hx hb d_Arr_fill_0_6 rfl (lv_at hl 3 rfl) ?_
    refine lv_icmp_ge (tgt := 20) hx hb d_Arr_fill_0_7 (by decide) (fun hc => ?_) (fun hc => ?_)
    · have h := if_t hc h
      cases h
      exact fx_vret X hP hD hS d_Arr_fill_0_20
    · have h := if_f hc h
      refine lv_aload_n hx hb d_Arr_fill_0_10 rfl (lv_at hl 0 rfl) ?_
      refine lv_iload_n hx hb d_Arr_fill_0_11 rfl (lv_at hl 2 rfl) ?_
      refine lv_iload_n hx hb d_Arr_fill_0_12 rfl (lv_at hl 1 rfl) ?_
      obtain ⟨g1, e1, h⟩ := bd_some h
      refine sF_14 X hP hD hS e1 d_Arr_fill_0_13 (fun H locs hP hD hS => ?_)
      refine lv_iinc (k := 2) (v := (y2 + (1 : Int32))) hx hb d_Arr_fill_0_14 hl rfl (oi_1 _) (by decide) rfl (fun ls hl => ?_)
      have hl : lv_has ls 4 [(2, .int (y2 + (1 : Int32))), (0, .ref (ad 25)), (1, .int y1), (3, .int y3)] := hl
      refine lv_goto (tgt := 5) hx hb d_Arr_fill_0_17 (by decide) ?_
      exact ih _ _ _ _ _ _ _ hP hD hS (lv_sub hl [1, 2, 0, 3] rfl) h
set_option maxHeartbeats 4000000 in
set_option maxRecDepth 100000 in
theorem m_Arr_fill_0_14 {l : Launch} {D : va_G} {ad : Nat → Nat} {ca : Nat → ClassId} {FU : Nat} {x1 : Int32} {g : St} {q : St} (h : Arr_fill_0 FU 14 x1 g = some q) : CV l ⟨"java/util/Arrays", "fill", "([II)V"⟩ prog_28_method_103_code 4 1 D (tyF ca) (wF ad ca g) [.ref (ad 25), .int x1] (wF ad ca q) := by
  intro sz
  refine Met.fx (Qc := fun A => fxQv D (tyF ca) A (wF ad ca q)) (by decide) (Nat.le_of_ble_eq_true rfl) ?_
  intro p e s m below meth c A ls X hP hD hl
  have hl : lv_has ls 4 [(0, .ref (ad 25)), (1, .int x1)] := hl
  have hS : va_S A s.heap s.heap [] := va_S.rf
  have hx := X.1
  have hb := X.2.1
  unfold Arr_fill_0 at h
  refine lv_iconst (v := 0) hx hb d_Arr_fill_0_0 (by decide) ?_
  refine lv_istore_n hx hb d_Arr_fill_0_1 rfl hl (by decide) rfl (fun ls hl => ?_)
  have hl : lv_has ls 4 [(2, .int (0 : Int32)), (0, .ref (ad 25)), (1, .int x1)] := hl
  refine lv_aload_n hx hb d_Arr_fill_0_2 rfl (lv_at hl 1 rfl) ?_
  refine va_alen (v := (nI (lenF 14))) hx hb X.2.2.2.2.2.2.2.1 hP 25 14 rfl rfl rfl d_Arr_fill_0_3 ?_
  refine lv_istore_n hx hb d_Arr_fill_0_4 rfl hl (by decide) rfl (fun ls hl => ?_)
  have hl : lv_has ls 4 [(3, .int (nI (lenF 14))), (2, .int (0 : Int32)), (0, .ref (ad 25)), (1, .int x1)] := hl
  exact v_Arr_fill_0_5_14 X  _ _ _ _ _ _ _ _ hP hD hS (lv_sub hl [2, 3, 1, 0] rfl) h
set_option maxHeartbeats 4000000 in
set_option maxRecDepth 100000 in
theorem v_Arr_fill_0_5_16 {p : Program} {l : Launch} {e : Env} {s : State} {m : MethodId} {args : Array Value} {below : List Frame} {meth : Method} {c : Code} {D : va_G} {ad : Nat → Nat} {ca : Nat → ClassId} {A : Nat → Prop} {FU : Nat} {q : St} (X : FX p s m meth c prog_28_method_103_code 4 none "java/util/Arrays" D (tyF ca) A) : ∀ (n : Nat), ∀ (y1 y2 y3 : Int32) (g : St) (H : Heap) (locs : List Loc) (ls : Array Slot), va_P D cls (wF ad ca g) H → va_D A (wF ad ca g) → va_S A s.heap H locs → lv_has ls 4 [(0, .ref (ad 27)), (1, .int y1), (2, .int y2), (3, .int y3)] → Arr_fill_0_b5 FU 16 n y1 y2 y3 g = some q → W p l e (rmN 1) s m args below meth c H locs 0 0 (MQ below (fxQv D (tyF ca) A (wF ad ca q)) args s 0 0 A) (F0 m 5 ls []) := by
  have hx := X.1
  have hb := X.2.1
  intro n
  induction n with
  | zero =>
    intro y1 y2 y3 g H locs ls hP hD hS hl h
    cases h
  | succ n ih =>
    intro y1 y2 y3 g H locs ls hP hD hS hl h
    have h := h
    rw [Arr_fill_0_b5.eq_2] at h
    refine lv_iload_n hx hb d_Arr_fill_0_5 rfl (lv_at hl 2 rfl) ?_
    refine lv_iload_n hx hb d_Arr_fill_0_6 rfl (lv_at hl 3 rfl) ?_
    refine lv_icmp_ge (tgt := 20) hx hb d_Arr_fill_0_7 (by decide) (fun hc => ?_) (fun hc => ?_)
    · have h := if_t hc h
      cases h
      exact fx_vret X hP hD hS d_Arr_fill_0_20
    · have h := if_f hc h
      refine lv_aload_n hx hb d_Arr_fill_0_10 rfl (lv_at hl 0 rfl) ?_
      refine lv_iload_n hx hb d_Arr_fill_0_11 rfl (lv_at hl 2 rfl) ?_
      refine lv_iload_n hx hb d_Arr_fill_0_12 rfl (lv_at hl 1 rfl) ?_
      obtain ⟨g1, e1, h⟩ := bd_some h
      refine sF_16 X hP hD hS e1 d_Arr_fill_0_13 (fun H locs hP hD hS => ?_)
      refine lv_iinc (k := 2) (v := (y2 + (1 : Int32))) hx hb d_Arr_fill_0_14 hl rfl (oi_1 _) (by decide) rfl (fun ls hl => ?_)
      have hl : lv_has ls 4 [(2, .int (y2 + (1 : Int32))), (0, .ref (ad 27)), (1, .int y1), (3, .int y3)] := hl
      refine lv_goto (tgt := 5) hx hb d_Arr_fill_0_17 (by decide) ?_
      exact ih _ _ _ _ _ _ _ hP hD hS (lv_sub hl [1, 2, 0, 3] rfl) h
set_option maxHeartbeats 4000000 in
set_option maxRecDepth 100000 in
theorem m_Arr_fill_0_16 {l : Launch} {D : va_G} {ad : Nat → Nat} {ca : Nat → ClassId} {FU : Nat} {x1 : Int32} {g : St} {q : St} (h : Arr_fill_0 FU 16 x1 g = some q) : CV l ⟨"java/util/Arrays", "fill", "([II)V"⟩ prog_28_method_103_code 4 1 D (tyF ca) (wF ad ca g) [.ref (ad 27), .int x1] (wF ad ca q) := by
  intro sz
  refine Met.fx (Qc := fun A => fxQv D (tyF ca) A (wF ad ca q)) (by decide) (Nat.le_of_ble_eq_true rfl) ?_
  intro p e s m below meth c A ls X hP hD hl
  have hl : lv_has ls 4 [(0, .ref (ad 27)), (1, .int x1)] := hl
  have hS : va_S A s.heap s.heap [] := va_S.rf
  have hx := X.1
  have hb := X.2.1
  unfold Arr_fill_0 at h
  refine lv_iconst (v := 0) hx hb d_Arr_fill_0_0 (by decide) ?_
  refine lv_istore_n hx hb d_Arr_fill_0_1 rfl hl (by decide) rfl (fun ls hl => ?_)
  have hl : lv_has ls 4 [(2, .int (0 : Int32)), (0, .ref (ad 27)), (1, .int x1)] := hl
  refine lv_aload_n hx hb d_Arr_fill_0_2 rfl (lv_at hl 1 rfl) ?_
  refine va_alen (v := (nI (lenF 16))) hx hb X.2.2.2.2.2.2.2.1 hP 27 16 rfl rfl rfl d_Arr_fill_0_3 ?_
  refine lv_istore_n hx hb d_Arr_fill_0_4 rfl hl (by decide) rfl (fun ls hl => ?_)
  have hl : lv_has ls 4 [(3, .int (nI (lenF 16))), (2, .int (0 : Int32)), (0, .ref (ad 27)), (1, .int x1)] := hl
  exact v_Arr_fill_0_5_16 X  _ _ _ _ _ _ _ _ hP hD hS (lv_sub hl [2, 3, 1, 0] rfl) h
set_option maxHeartbeats 4000000 in
set_option maxRecDepth 100000 in
theorem v_Arr_fill_0_5_15 {p : Program} {l : Launch} {e : Env} {s : State} {m : MethodId} {args : Array Value} {below : List Frame} {meth : Method} {c : Code} {D : va_G} {ad : Nat → Nat} {ca : Nat → ClassId} {A : Nat → Prop} {FU : Nat} {q : St} (X : FX p s m meth c prog_28_method_103_code 4 none "java/util/Arrays" D (tyF ca) A) : ∀ (n : Nat), ∀ (y1 y2 y3 : Int32) (g : St) (H : Heap) (locs : List Loc) (ls : Array Slot), va_P D cls (wF ad ca g) H → va_D A (wF ad ca g) → va_S A s.heap H locs → lv_has ls 4 [(0, .ref (ad 26)), (1, .int y1), (2, .int y2), (3, .int y3)] → Arr_fill_0_b5 FU 15 n y1 y2 y3 g = some q → W p l e (rmN 1) s m args below meth c H locs 0 0 (MQ below (fxQv D (tyF ca) A (wF ad ca q)) args s 0 0 A) (F0 m 5 ls []) := by
  have hx := X.1
  have hb := X.2.1
  intro n
  induction n with
  | zero =>
    intro y1 y2 y3 g H locs ls hP hD hS hl h
    cases h
  | succ n ih =>
    intro y1 y2 y3 g H locs ls hP hD hS hl h
    have h := h
    rw [Arr_fill_0_b5.eq_2] at h
    refine lv_iload_n hx hb d_Arr_fill_0_5 rfl (lv_at hl 2 rfl) ?_
    refine lv_iload_n hx hb d_Arr_fill_0_6 rfl (lv_at hl 3 rfl) ?_
    refine lv_icmp_ge (tgt := 20) hx hb d_Arr_fill_0_7 (by decide) (fun hc => ?_) (fun hc => ?_)
    · have h := if_t hc h
      cases h
      exact fx_vret X hP hD hS d_Arr_fill_0_20
    · have h := if_f hc h
      refine lv_aload_n hx hb d_Arr_fill_0_10 rfl (lv_at hl 0 rfl) ?_
      refine lv_iload_n hx hb d_Arr_fill_0_11 rfl (lv_at hl 2 rfl) ?_
      refine lv_iload_n hx hb d_Arr_fill_0_12 rfl (lv_at hl 1 rfl) ?_
      obtain ⟨g1, e1, h⟩ := bd_some h
      refine sF_15 X hP hD hS e1 d_Arr_fill_0_13 (fun H locs hP hD hS => ?_)
      refine lv_iinc (k := 2) (v := (y2 + (1 : Int32))) hx hb d_Arr_fill_0_14 hl rfl (oi_1 _) (by decide) rfl (fun ls hl => ?_)
      have hl : lv_has ls 4 [(2, .int (y2 + (1 : Int32))), (0, .ref (ad 26)), (1, .int y1), (3, .int y3)] := hl
      refine lv_goto (tgt := 5) hx hb d_Arr_fill_0_17 (by decide) ?_
      exact ih _ _ _ _ _ _ _ hP hD hS (lv_sub hl [1, 2, 0, 3] rfl) h
set_option maxHeartbeats 4000000 in
set_option maxRecDepth 100000 in
theorem m_Arr_fill_0_15 {l : Launch} {D : va_G} {ad : Nat → Nat} {ca : Nat → ClassId} {FU : Nat} {x1 : Int32} {g : St} {q : St} (h : Arr_fill_0 FU 15 x1 g = some q) : CV l ⟨"java/util/Arrays", "fill", "([II)V"⟩ prog_28_method_103_code 4 1 D (tyF ca) (wF ad ca g) [.ref (ad 26), .int x1] (wF ad ca q) := by
  intro sz
  refine Met.fx (Qc := fun A => fxQv D (tyF ca) A (wF ad ca q)) (by decide) (Nat.le_of_ble_eq_true rfl) ?_
  intro p e s m below meth c A ls X hP hD hl
  have hl : lv_has ls 4 [(0, .ref (ad 26)), (1, .int x1)] := hl
  have hS : va_S A s.heap s.heap [] := va_S.rf
  have hx := X.1
  have hb := X.2.1
  unfold Arr_fill_0 at h
  refine lv_iconst (v := 0) hx hb d_Arr_fill_0_0 (by decide) ?_
  refine lv_istore_n hx hb d_Arr_fill_0_1 rfl hl (by decide) rfl (fun ls hl => ?_)
  have hl : lv_has ls 4 [(2, .int (0 : Int32)), (0, .ref (ad 26)), (1, .int x1)] := hl
  refine lv_aload_n hx hb d_Arr_fill_0_2 rfl (lv_at hl 1 rfl) ?_
  refine va_alen (v := (nI (lenF 15))) hx hb X.2.2.2.2.2.2.2.1 hP 26 15 rfl rfl rfl d_Arr_fill_0_3 ?_
  refine lv_istore_n hx hb d_Arr_fill_0_4 rfl hl (by decide) rfl (fun ls hl => ?_)
  have hl : lv_has ls 4 [(3, .int (nI (lenF 15))), (2, .int (0 : Int32)), (0, .ref (ad 26)), (1, .int x1)] := hl
  exact v_Arr_fill_0_5_15 X  _ _ _ _ _ _ _ _ hP hD hS (lv_sub hl [2, 3, 1, 0] rfl) h
set_option maxHeartbeats 4000000 in
set_option maxRecDepth 100000 in
theorem v_Arr_fill_0_5_17 {p : Program} {l : Launch} {e : Env} {s : State} {m : MethodId} {args : Array Value} {below : List Frame} {meth : Method} {c : Code} {D : va_G} {ad : Nat → Nat} {ca : Nat → ClassId} {A : Nat → Prop} {FU : Nat} {q : St} (X : FX p s m meth c prog_28_method_103_code 4 none "java/util/Arrays" D (tyF ca) A) : ∀ (n : Nat), ∀ (y1 y2 y3 : Int32) (g : St) (H : Heap) (locs : List Loc) (ls : Array Slot), va_P D cls (wF ad ca g) H → va_D A (wF ad ca g) → va_S A s.heap H locs → lv_has ls 4 [(0, .ref (ad 28)), (1, .int y1), (2, .int y2), (3, .int y3)] → Arr_fill_0_b5 FU 17 n y1 y2 y3 g = some q → W p l e (rmN 1) s m args below meth c H locs 0 0 (MQ below (fxQv D (tyF ca) A (wF ad ca q)) args s 0 0 A) (F0 m 5 ls []) := by
  have hx := X.1
  have hb := X.2.1
  intro n
  induction n with
  | zero =>
    intro y1 y2 y3 g H locs ls hP hD hS hl h
    cases h
  | succ n ih =>
    intro y1 y2 y3 g H locs ls hP hD hS hl h
    have h := h
    rw [Arr_fill_0_b5.eq_2] at h
    refine lv_iload_n hx hb d_Arr_fill_0_5 rfl (lv_at hl 2 rfl) ?_
    refine lv_iload_n hx hb d_Arr_fill_0_6 rfl (lv_at hl 3 rfl) ?_
    refine lv_icmp_ge (tgt := 20) hx hb d_Arr_fill_0_7 (by decide) (fun hc => ?_) (fun hc => ?_)
    · have h := if_t hc h
      cases h
      exact fx_vret X hP hD hS d_Arr_fill_0_20
    · have h := if_f hc h
      refine lv_aload_n hx hb d_Arr_fill_0_10 rfl (lv_at hl 0 rfl) ?_
      refine lv_iload_n hx hb d_Arr_fill_0_11 rfl (lv_at hl 2 rfl) ?_
      refine lv_iload_n hx hb d_Arr_fill_0_12 rfl (lv_at hl 1 rfl) ?_
      obtain ⟨g1, e1, h⟩ := bd_some h
      refine sF_17 X hP hD hS e1 d_Arr_fill_0_13 (fun H locs hP hD hS => ?_)
      refine lv_iinc (k := 2) (v := (y2 + (1 : Int32))) hx hb d_Arr_fill_0_14 hl rfl (oi_1 _) (by decide) rfl (fun ls hl => ?_)
      have hl : lv_has ls 4 [(2, .int (y2 + (1 : Int32))), (0, .ref (ad 28)), (1, .int y1), (3, .int y3)] := hl
      refine lv_goto (tgt := 5) hx hb d_Arr_fill_0_17 (by decide) ?_
      exact ih _ _ _ _ _ _ _ hP hD hS (lv_sub hl [1, 2, 0, 3] rfl) h
set_option maxHeartbeats 4000000 in
set_option maxRecDepth 100000 in
theorem m_Arr_fill_0_17 {l : Launch} {D : va_G} {ad : Nat → Nat} {ca : Nat → ClassId} {FU : Nat} {x1 : Int32} {g : St} {q : St} (h : Arr_fill_0 FU 17 x1 g = some q) : CV l ⟨"java/util/Arrays", "fill", "([II)V"⟩ prog_28_method_103_code 4 1 D (tyF ca) (wF ad ca g) [.ref (ad 28), .int x1] (wF ad ca q) := by
  intro sz
  refine Met.fx (Qc := fun A => fxQv D (tyF ca) A (wF ad ca q)) (by decide) (Nat.le_of_ble_eq_true rfl) ?_
  intro p e s m below meth c A ls X hP hD hl
  have hl : lv_has ls 4 [(0, .ref (ad 28)), (1, .int x1)] := hl
  have hS : va_S A s.heap s.heap [] := va_S.rf
  have hx := X.1
  have hb := X.2.1
  unfold Arr_fill_0 at h
  refine lv_iconst (v := 0) hx hb d_Arr_fill_0_0 (by decide) ?_
  refine lv_istore_n hx hb d_Arr_fill_0_1 rfl hl (by decide) rfl (fun ls hl => ?_)
  have hl : lv_has ls 4 [(2, .int (0 : Int32)), (0, .ref (ad 28)), (1, .int x1)] := hl
  refine lv_aload_n hx hb d_Arr_fill_0_2 rfl (lv_at hl 1 rfl) ?_
  refine va_alen (v := (nI (lenF 17))) hx hb X.2.2.2.2.2.2.2.1 hP 28 17 rfl rfl rfl d_Arr_fill_0_3 ?_
  refine lv_istore_n hx hb d_Arr_fill_0_4 rfl hl (by decide) rfl (fun ls hl => ?_)
  have hl : lv_has ls 4 [(3, .int (nI (lenF 17))), (2, .int (0 : Int32)), (0, .ref (ad 28)), (1, .int x1)] := hl
  exact v_Arr_fill_0_5_17 X  _ _ _ _ _ _ _ _ hP hD hS (lv_sub hl [2, 3, 1, 0] rfl) h
set_option maxHeartbeats 4000000 in
set_option maxRecDepth 100000 in
theorem v_Arr_fill_0_5_22 {p : Program} {l : Launch} {e : Env} {s : State} {m : MethodId} {args : Array Value} {below : List Frame} {meth : Method} {c : Code} {D : va_G} {ad : Nat → Nat} {ca : Nat → ClassId} {A : Nat → Prop} {FU : Nat} {q : St} (X : FX p s m meth c prog_28_method_103_code 4 none "java/util/Arrays" D (tyF ca) A) : ∀ (n : Nat), ∀ (y1 y2 y3 : Int32) (g : St) (H : Heap) (locs : List Loc) (ls : Array Slot), va_P D cls (wF ad ca g) H → va_D A (wF ad ca g) → va_S A s.heap H locs → lv_has ls 4 [(0, .ref (ad 33)), (1, .int y1), (2, .int y2), (3, .int y3)] → Arr_fill_0_b5 FU 22 n y1 y2 y3 g = some q → W p l e (rmN 1) s m args below meth c H locs 0 0 (MQ below (fxQv D (tyF ca) A (wF ad ca q)) args s 0 0 A) (F0 m 5 ls []) := by
  have hx := X.1
  have hb := X.2.1
  intro n
  induction n with
  | zero =>
    intro y1 y2 y3 g H locs ls hP hD hS hl h
    cases h
  | succ n ih =>
    intro y1 y2 y3 g H locs ls hP hD hS hl h
    have h := h
    rw [Arr_fill_0_b5.eq_2] at h
    refine lv_iload_n hx hb d_Arr_fill_0_5 rfl (lv_at hl 2 rfl) ?_
    refine lv_iload_n hx hb d_Arr_fill_0_6 rfl (lv_at hl 3 rfl) ?_
    refine lv_icmp_ge (tgt := 20) hx hb d_Arr_fill_0_7 (by decide) (fun hc => ?_) (fun hc => ?_)
    · have h := if_t hc h
      cases h
      exact fx_vret X hP hD hS d_Arr_fill_0_20
    · have h := if_f hc h
      refine lv_aload_n hx hb d_Arr_fill_0_10 rfl (lv_at hl 0 rfl) ?_
      refine lv_iload_n hx hb d_Arr_fill_0_11 rfl (lv_at hl 2 rfl) ?_
      refine lv_iload_n hx hb d_Arr_fill_0_12 rfl (lv_at hl 1 rfl) ?_
      obtain ⟨g1, e1, h⟩ := bd_some h
      refine sF_22 X hP hD hS e1 d_Arr_fill_0_13 (fun H locs hP hD hS => ?_)
      refine lv_iinc (k := 2) (v := (y2 + (1 : Int32))) hx hb d_Arr_fill_0_14 hl rfl (oi_1 _) (by decide) rfl (fun ls hl => ?_)
      have hl : lv_has ls 4 [(2, .int (y2 + (1 : Int32))), (0, .ref (ad 33)), (1, .int y1), (3, .int y3)] := hl
      refine lv_goto (tgt := 5) hx hb d_Arr_fill_0_17 (by decide) ?_
      exact ih _ _ _ _ _ _ _ hP hD hS (lv_sub hl [1, 2, 0, 3] rfl) h
set_option maxHeartbeats 4000000 in
set_option maxRecDepth 100000 in
theorem m_Arr_fill_0_22 {l : Launch} {D : va_G} {ad : Nat → Nat} {ca : Nat → ClassId} {FU : Nat} {x1 : Int32} {g : St} {q : St} (h : Arr_fill_0 FU 22 x1 g = some q) : CV l ⟨"java/util/Arrays", "fill", "([II)V"⟩ prog_28_method_103_code 4 1 D (tyF ca) (wF ad ca g) [.ref (ad 33), .int x1] (wF ad ca q) := by
  intro sz
  refine Met.fx (Qc := fun A => fxQv D (tyF ca) A (wF ad ca q)) (by decide) (Nat.le_of_ble_eq_true rfl) ?_
  intro p e s m below meth c A ls X hP hD hl
  have hl : lv_has ls 4 [(0, .ref (ad 33)), (1, .int x1)] := hl
  have hS : va_S A s.heap s.heap [] := va_S.rf
  have hx := X.1
  have hb := X.2.1
  unfold Arr_fill_0 at h
  refine lv_iconst (v := 0) hx hb d_Arr_fill_0_0 (by decide) ?_
  refine lv_istore_n hx hb d_Arr_fill_0_1 rfl hl (by decide) rfl (fun ls hl => ?_)
  have hl : lv_has ls 4 [(2, .int (0 : Int32)), (0, .ref (ad 33)), (1, .int x1)] := hl
  refine lv_aload_n hx hb d_Arr_fill_0_2 rfl (lv_at hl 1 rfl) ?_
  refine va_alen (v := (nI (lenF 22))) hx hb X.2.2.2.2.2.2.2.1 hP 33 22 rfl rfl rfl d_Arr_fill_0_3 ?_
  refine lv_istore_n hx hb d_Arr_fill_0_4 rfl hl (by decide) rfl (fun ls hl => ?_)
  have hl : lv_has ls 4 [(3, .int (nI (lenF 22))), (2, .int (0 : Int32)), (0, .ref (ad 33)), (1, .int x1)] := hl
  exact v_Arr_fill_0_5_22 X  _ _ _ _ _ _ _ _ hP hD hS (lv_sub hl [2, 3, 1, 0] rfl) h
set_option maxHeartbeats 4000000 in
set_option maxRecDepth 100000 in
theorem v_Arr_fill_0_5_23 {p : Program} {l : Launch} {e : Env} {s : State} {m : MethodId} {args : Array Value} {below : List Frame} {meth : Method} {c : Code} {D : va_G} {ad : Nat → Nat} {ca : Nat → ClassId} {A : Nat → Prop} {FU : Nat} {q : St} (X : FX p s m meth c prog_28_method_103_code 4 none "java/util/Arrays" D (tyF ca) A) : ∀ (n : Nat), ∀ (y1 y2 y3 : Int32) (g : St) (H : Heap) (locs : List Loc) (ls : Array Slot), va_P D cls (wF ad ca g) H → va_D A (wF ad ca g) → va_S A s.heap H locs → lv_has ls 4 [(0, .ref (ad 34)), (1, .int y1), (2, .int y2), (3, .int y3)] → Arr_fill_0_b5 FU 23 n y1 y2 y3 g = some q → W p l e (rmN 1) s m args below meth c H locs 0 0 (MQ below (fxQv D (tyF ca) A (wF ad ca q)) args s 0 0 A) (F0 m 5 ls []) := by
  have hx := X.1
  have hb := X.2.1
  intro n
  induction n with
  | zero =>
    intro y1 y2 y3 g H locs ls hP hD hS hl h
    cases h
  | succ n ih =>
    intro y1 y2 y3 g H locs ls hP hD hS hl h
    have h := h
    rw [Arr_fill_0_b5.eq_2] at h
    refine lv_iload_n hx hb d_Arr_fill_0_5 rfl (lv_at hl 2 rfl) ?_
    refine lv_iload_n hx hb d_Arr_fill_0_6 rfl (lv_at hl 3 rfl) ?_
    refine lv_icmp_ge (tgt := 20) hx hb d_Arr_fill_0_7 (by decide) (fun hc => ?_) (fun hc => ?_)
    · have h := if_t hc h
      cases h
      exact fx_vret X hP hD hS d_Arr_fill_0_20
    · have h := if_f hc h
      refine lv_aload_n hx hb d_Arr_fill_0_10 rfl (lv_at hl 0 rfl) ?_
      refine lv_iload_n hx hb d_Arr_fill_0_11 rfl (lv_at hl 2 rfl) ?_
      refine lv_iload_n hx hb d_Arr_fill_0_12 rfl (lv_at hl 1 rfl) ?_
      obtain ⟨g1, e1, h⟩ := bd_some h
      refine sF_23 X hP hD hS e1 d_Arr_fill_0_13 (fun H locs hP hD hS => ?_)
      refine lv_iinc (k := 2) (v := (y2 + (1 : Int32))) hx hb d_Arr_fill_0_14 hl rfl (oi_1 _) (by decide) rfl (fun ls hl => ?_)
      have hl : lv_has ls 4 [(2, .int (y2 + (1 : Int32))), (0, .ref (ad 34)), (1, .int y1), (3, .int y3)] := hl
      refine lv_goto (tgt := 5) hx hb d_Arr_fill_0_17 (by decide) ?_
      exact ih _ _ _ _ _ _ _ hP hD hS (lv_sub hl [1, 2, 0, 3] rfl) h
set_option maxHeartbeats 4000000 in
set_option maxRecDepth 100000 in
theorem m_Arr_fill_0_23 {l : Launch} {D : va_G} {ad : Nat → Nat} {ca : Nat → ClassId} {FU : Nat} {x1 : Int32} {g : St} {q : St} (h : Arr_fill_0 FU 23 x1 g = some q) : CV l ⟨"java/util/Arrays", "fill", "([II)V"⟩ prog_28_method_103_code 4 1 D (tyF ca) (wF ad ca g) [.ref (ad 34), .int x1] (wF ad ca q) := by
  intro sz
  refine Met.fx (Qc := fun A => fxQv D (tyF ca) A (wF ad ca q)) (by decide) (Nat.le_of_ble_eq_true rfl) ?_
  intro p e s m below meth c A ls X hP hD hl
  have hl : lv_has ls 4 [(0, .ref (ad 34)), (1, .int x1)] := hl
  have hS : va_S A s.heap s.heap [] := va_S.rf
  have hx := X.1
  have hb := X.2.1
  unfold Arr_fill_0 at h
  refine lv_iconst (v := 0) hx hb d_Arr_fill_0_0 (by decide) ?_
  refine lv_istore_n hx hb d_Arr_fill_0_1 rfl hl (by decide) rfl (fun ls hl => ?_)
  have hl : lv_has ls 4 [(2, .int (0 : Int32)), (0, .ref (ad 34)), (1, .int x1)] := hl
  refine lv_aload_n hx hb d_Arr_fill_0_2 rfl (lv_at hl 1 rfl) ?_
  refine va_alen (v := (nI (lenF 23))) hx hb X.2.2.2.2.2.2.2.1 hP 34 23 rfl rfl rfl d_Arr_fill_0_3 ?_
  refine lv_istore_n hx hb d_Arr_fill_0_4 rfl hl (by decide) rfl (fun ls hl => ?_)
  have hl : lv_has ls 4 [(3, .int (nI (lenF 23))), (2, .int (0 : Int32)), (0, .ref (ad 34)), (1, .int x1)] := hl
  exact v_Arr_fill_0_5_23 X  _ _ _ _ _ _ _ _ hP hD hS (lv_sub hl [2, 3, 1, 0] rfl) h
set_option maxHeartbeats 4000000 in
set_option maxRecDepth 100000 in
theorem v_Arr_fill_0_5_24 {p : Program} {l : Launch} {e : Env} {s : State} {m : MethodId} {args : Array Value} {below : List Frame} {meth : Method} {c : Code} {D : va_G} {ad : Nat → Nat} {ca : Nat → ClassId} {A : Nat → Prop} {FU : Nat} {q : St} (X : FX p s m meth c prog_28_method_103_code 4 none "java/util/Arrays" D (tyF ca) A) : ∀ (n : Nat), ∀ (y1 y2 y3 : Int32) (g : St) (H : Heap) (locs : List Loc) (ls : Array Slot), va_P D cls (wF ad ca g) H → va_D A (wF ad ca g) → va_S A s.heap H locs → lv_has ls 4 [(0, .ref (ad 35)), (1, .int y1), (2, .int y2), (3, .int y3)] → Arr_fill_0_b5 FU 24 n y1 y2 y3 g = some q → W p l e (rmN 1) s m args below meth c H locs 0 0 (MQ below (fxQv D (tyF ca) A (wF ad ca q)) args s 0 0 A) (F0 m 5 ls []) := by
  have hx := X.1
  have hb := X.2.1
  intro n
  induction n with
  | zero =>
    intro y1 y2 y3 g H locs ls hP hD hS hl h
    cases h
  | succ n ih =>
    intro y1 y2 y3 g H locs ls hP hD hS hl h
    have h := h
    rw [Arr_fill_0_b5.eq_2] at h
    refine lv_iload_n hx hb d_Arr_fill_0_5 rfl (lv_at hl 2 rfl) ?_
    refine lv_iload_n hx hb d_Arr_fill_0_6 rfl (lv_at hl 3 rfl) ?_
    refine lv_icmp_ge (tgt := 20) hx hb d_Arr_fill_0_7 (by decide) (fun hc => ?_) (fun hc => ?_)
    · have h := if_t hc h
      cases h
      exact fx_vret X hP hD hS d_Arr_fill_0_20
    · have h := if_f hc h
      refine lv_aload_n hx hb d_Arr_fill_0_10 rfl (lv_at hl 0 rfl) ?_
      refine lv_iload_n hx hb d_Arr_fill_0_11 rfl (lv_at hl 2 rfl) ?_
      refine lv_iload_n hx hb d_Arr_fill_0_12 rfl (lv_at hl 1 rfl) ?_
      obtain ⟨g1, e1, h⟩ := bd_some h
      refine sF_24 X hP hD hS e1 d_Arr_fill_0_13 (fun H locs hP hD hS => ?_)
      refine lv_iinc (k := 2) (v := (y2 + (1 : Int32))) hx hb d_Arr_fill_0_14 hl rfl (oi_1 _) (by decide) rfl (fun ls hl => ?_)
      have hl : lv_has ls 4 [(2, .int (y2 + (1 : Int32))), (0, .ref (ad 35)), (1, .int y1), (3, .int y3)] := hl
      refine lv_goto (tgt := 5) hx hb d_Arr_fill_0_17 (by decide) ?_
      exact ih _ _ _ _ _ _ _ hP hD hS (lv_sub hl [1, 2, 0, 3] rfl) h
set_option maxHeartbeats 4000000 in
set_option maxRecDepth 100000 in
theorem m_Arr_fill_0_24 {l : Launch} {D : va_G} {ad : Nat → Nat} {ca : Nat → ClassId} {FU : Nat} {x1 : Int32} {g : St} {q : St} (h : Arr_fill_0 FU 24 x1 g = some q) : CV l ⟨"java/util/Arrays", "fill", "([II)V"⟩ prog_28_method_103_code 4 1 D (tyF ca) (wF ad ca g) [.ref (ad 35), .int x1] (wF ad ca q) := by
  intro sz
  refine Met.fx (Qc := fun A => fxQv D (tyF ca) A (wF ad ca q)) (by decide) (Nat.le_of_ble_eq_true rfl) ?_
  intro p e s m below meth c A ls X hP hD hl
  have hl : lv_has ls 4 [(0, .ref (ad 35)), (1, .int x1)] := hl
  have hS : va_S A s.heap s.heap [] := va_S.rf
  have hx := X.1
  have hb := X.2.1
  unfold Arr_fill_0 at h
  refine lv_iconst (v := 0) hx hb d_Arr_fill_0_0 (by decide) ?_
  refine lv_istore_n hx hb d_Arr_fill_0_1 rfl hl (by decide) rfl (fun ls hl => ?_)
  have hl : lv_has ls 4 [(2, .int (0 : Int32)), (0, .ref (ad 35)), (1, .int x1)] := hl
  refine lv_aload_n hx hb d_Arr_fill_0_2 rfl (lv_at hl 1 rfl) ?_
  refine va_alen (v := (nI (lenF 24))) hx hb X.2.2.2.2.2.2.2.1 hP 35 24 rfl rfl rfl d_Arr_fill_0_3 ?_
  refine lv_istore_n hx hb d_Arr_fill_0_4 rfl hl (by decide) rfl (fun ls hl => ?_)
  have hl : lv_has ls 4 [(3, .int (nI (lenF 24))), (2, .int (0 : Int32)), (0, .ref (ad 35)), (1, .int x1)] := hl
  exact v_Arr_fill_0_5_24 X  _ _ _ _ _ _ _ _ hP hD hS (lv_sub hl [2, 3, 1, 0] rfl) h
set_option maxHeartbeats 4000000 in
set_option maxRecDepth 100000 in
theorem v_Arr_fill_0_5_25 {p : Program} {l : Launch} {e : Env} {s : State} {m : MethodId} {args : Array Value} {below : List Frame} {meth : Method} {c : Code} {D : va_G} {ad : Nat → Nat} {ca : Nat → ClassId} {A : Nat → Prop} {FU : Nat} {q : St} (X : FX p s m meth c prog_28_method_103_code 4 none "java/util/Arrays" D (tyF ca) A) : ∀ (n : Nat), ∀ (y1 y2 y3 : Int32) (g : St) (H : Heap) (locs : List Loc) (ls : Array Slot), va_P D cls (wF ad ca g) H → va_D A (wF ad ca g) → va_S A s.heap H locs → lv_has ls 4 [(0, .ref (ad 36)), (1, .int y1), (2, .int y2), (3, .int y3)] → Arr_fill_0_b5 FU 25 n y1 y2 y3 g = some q → W p l e (rmN 1) s m args below meth c H locs 0 0 (MQ below (fxQv D (tyF ca) A (wF ad ca q)) args s 0 0 A) (F0 m 5 ls []) := by
  have hx := X.1
  have hb := X.2.1
  intro n
  induction n with
  | zero =>
    intro y1 y2 y3 g H locs ls hP hD hS hl h
    cases h
  | succ n ih =>
    intro y1 y2 y3 g H locs ls hP hD hS hl h
    have h := h
    rw [Arr_fill_0_b5.eq_2] at h
    refine lv_iload_n hx hb d_Arr_fill_0_5 rfl (lv_at hl 2 rfl) ?_
    refine lv_iload_n hx hb d_Arr_fill_0_6 rfl (lv_at hl 3 rfl) ?_
    refine lv_icmp_ge (tgt := 20) hx hb d_Arr_fill_0_7 (by decide) (fun hc => ?_) (fun hc => ?_)
    · have h := if_t hc h
      cases h
      exact fx_vret X hP hD hS d_Arr_fill_0_20
    · have h := if_f hc h
      refine lv_aload_n hx hb d_Arr_fill_0_10 rfl (lv_at hl 0 rfl) ?_
      refine lv_iload_n hx hb d_Arr_fill_0_11 rfl (lv_at hl 2 rfl) ?_
      refine lv_iload_n hx hb d_Arr_fill_0_12 rfl (lv_at hl 1 rfl) ?_
      obtain ⟨g1, e1, h⟩ := bd_some h
      refine sF_25 X hP hD hS e1 d_Arr_fill_0_13 (fun H locs hP hD hS => ?_)
      refine lv_iinc (k := 2) (v := (y2 + (1 : Int32))) hx hb d_Arr_fill_0_14 hl rfl (oi_1 _) (by decide) rfl (fun ls hl => ?_)
      have hl : lv_has ls 4 [(2, .int (y2 + (1 : Int32))), (0, .ref (ad 36)), (1, .int y1), (3, .int y3)] := hl
      refine lv_goto (tgt := 5) hx hb d_Arr_fill_0_17 (by decide) ?_
      exact ih _ _ _ _ _ _ _ hP hD hS (lv_sub hl [1, 2, 0, 3] rfl) h
set_option maxHeartbeats 4000000 in
set_option maxRecDepth 100000 in
theorem m_Arr_fill_0_25 {l : Launch} {D : va_G} {ad : Nat → Nat} {ca : Nat → ClassId} {FU : Nat} {x1 : Int32} {g : St} {q : St} (h : Arr_fill_0 FU 25 x1 g = some q) : CV l ⟨"java/util/Arrays", "fill", "([II)V"⟩ prog_28_method_103_code 4 1 D (tyF ca) (wF ad ca g) [.ref (ad 36), .int x1] (wF ad ca q) := by
  intro sz
  refine Met.fx (Qc := fun A => fxQv D (tyF ca) A (wF ad ca q)) (by decide) (Nat.le_of_ble_eq_true rfl) ?_
  intro p e s m below meth c A ls X hP hD hl
  have hl : lv_has ls 4 [(0, .ref (ad 36)), (1, .int x1)] := hl
  have hS : va_S A s.heap s.heap [] := va_S.rf
  have hx := X.1
  have hb := X.2.1
  unfold Arr_fill_0 at h
  refine lv_iconst (v := 0) hx hb d_Arr_fill_0_0 (by decide) ?_
  refine lv_istore_n hx hb d_Arr_fill_0_1 rfl hl (by decide) rfl (fun ls hl => ?_)
  have hl : lv_has ls 4 [(2, .int (0 : Int32)), (0, .ref (ad 36)), (1, .int x1)] := hl
  refine lv_aload_n hx hb d_Arr_fill_0_2 rfl (lv_at hl 1 rfl) ?_
  refine va_alen (v := (nI (lenF 25))) hx hb X.2.2.2.2.2.2.2.1 hP 36 25 rfl rfl rfl d_Arr_fill_0_3 ?_
  refine lv_istore_n hx hb d_Arr_fill_0_4 rfl hl (by decide) rfl (fun ls hl => ?_)
  have hl : lv_has ls 4 [(3, .int (nI (lenF 25))), (2, .int (0 : Int32)), (0, .ref (ad 36)), (1, .int x1)] := hl
  exact v_Arr_fill_0_5_25 X  _ _ _ _ _ _ _ _ hP hD hS (lv_sub hl [2, 3, 1, 0] rfl) h
set_option maxHeartbeats 4000000 in
set_option maxRecDepth 100000 in
theorem v_Arr_fill_0_5_2 {p : Program} {l : Launch} {e : Env} {s : State} {m : MethodId} {args : Array Value} {below : List Frame} {meth : Method} {c : Code} {D : va_G} {ad : Nat → Nat} {ca : Nat → ClassId} {A : Nat → Prop} {FU : Nat} {q : St} (X : FX p s m meth c prog_28_method_103_code 4 none "java/util/Arrays" D (tyF ca) A) : ∀ (n : Nat), ∀ (y1 y2 y3 : Int32) (g : St) (H : Heap) (locs : List Loc) (ls : Array Slot), va_P D cls (wF ad ca g) H → va_D A (wF ad ca g) → va_S A s.heap H locs → lv_has ls 4 [(0, .ref (ad 13)), (1, .int y1), (2, .int y2), (3, .int y3)] → Arr_fill_0_b5 FU 2 n y1 y2 y3 g = some q → W p l e (rmN 1) s m args below meth c H locs 0 0 (MQ below (fxQv D (tyF ca) A (wF ad ca q)) args s 0 0 A) (F0 m 5 ls []) := by
  have hx := X.1
  have hb := X.2.1
  intro n
  induction n with
  | zero =>
    intro y1 y2 y3 g H locs ls hP hD hS hl h
    cases h
  | succ n ih =>
    intro y1 y2 y3 g H locs ls hP hD hS hl h
    have h := h
    rw [Arr_fill_0_b5.eq_2] at h
    refine lv_iload_n hx hb d_Arr_fill_0_5 rfl (lv_at hl 2 rfl) ?_
    refine lv_iload_n hx hb d_Arr_fill_0_6 rfl (lv_at hl 3 rfl) ?_
    refine lv_icmp_ge (tgt := 20) hx hb d_Arr_fill_0_7 (by decide) (fun hc => ?_) (fun hc => ?_)
    · have h := if_t hc h
      cases h
      exact fx_vret X hP hD hS d_Arr_fill_0_20
    · have h := if_f hc h
      refine lv_aload_n hx hb d_Arr_fill_0_10 rfl (lv_at hl 0 rfl) ?_
      refine lv_iload_n hx hb d_Arr_fill_0_11 rfl (lv_at hl 2 rfl) ?_
      refine lv_iload_n hx hb d_Arr_fill_0_12 rfl (lv_at hl 1 rfl) ?_
      obtain ⟨g1, e1, h⟩ := bd_some h
      refine sF_2 X hP hD hS e1 d_Arr_fill_0_13 (fun H locs hP hD hS => ?_)
      refine lv_iinc (k := 2) (v := (y2 + (1 : Int32))) hx hb d_Arr_fill_0_14 hl rfl (oi_1 _) (by decide) rfl (fun ls hl => ?_)
      have hl : lv_has ls 4 [(2, .int (y2 + (1 : Int32))), (0, .ref (ad 13)), (1, .int y1), (3, .int y3)] := hl
      refine lv_goto (tgt := 5) hx hb d_Arr_fill_0_17 (by decide) ?_
      exact ih _ _ _ _ _ _ _ hP hD hS (lv_sub hl [1, 2, 0, 3] rfl) h
set_option maxHeartbeats 4000000 in
set_option maxRecDepth 100000 in
theorem m_Arr_fill_0_2 {l : Launch} {D : va_G} {ad : Nat → Nat} {ca : Nat → ClassId} {FU : Nat} {x1 : Int32} {g : St} {q : St} (h : Arr_fill_0 FU 2 x1 g = some q) : CV l ⟨"java/util/Arrays", "fill", "([II)V"⟩ prog_28_method_103_code 4 1 D (tyF ca) (wF ad ca g) [.ref (ad 13), .int x1] (wF ad ca q) := by
  intro sz
  refine Met.fx (Qc := fun A => fxQv D (tyF ca) A (wF ad ca q)) (by decide) (Nat.le_of_ble_eq_true rfl) ?_
  intro p e s m below meth c A ls X hP hD hl
  have hl : lv_has ls 4 [(0, .ref (ad 13)), (1, .int x1)] := hl
  have hS : va_S A s.heap s.heap [] := va_S.rf
  have hx := X.1
  have hb := X.2.1
  unfold Arr_fill_0 at h
  refine lv_iconst (v := 0) hx hb d_Arr_fill_0_0 (by decide) ?_
  refine lv_istore_n hx hb d_Arr_fill_0_1 rfl hl (by decide) rfl (fun ls hl => ?_)
  have hl : lv_has ls 4 [(2, .int (0 : Int32)), (0, .ref (ad 13)), (1, .int x1)] := hl
  refine lv_aload_n hx hb d_Arr_fill_0_2 rfl (lv_at hl 1 rfl) ?_
  refine va_alen (v := (nI (lenF 2))) hx hb X.2.2.2.2.2.2.2.1 hP 13 2 rfl rfl rfl d_Arr_fill_0_3 ?_
  refine lv_istore_n hx hb d_Arr_fill_0_4 rfl hl (by decide) rfl (fun ls hl => ?_)
  have hl : lv_has ls 4 [(3, .int (nI (lenF 2))), (2, .int (0 : Int32)), (0, .ref (ad 13)), (1, .int x1)] := hl
  exact v_Arr_fill_0_5_2 X  _ _ _ _ _ _ _ _ hP hD hS (lv_sub hl [2, 3, 1, 0] rfl) h
set_option maxHeartbeats 4000000 in
set_option maxRecDepth 100000 in
theorem v_Arr_fill_0_5_3 {p : Program} {l : Launch} {e : Env} {s : State} {m : MethodId} {args : Array Value} {below : List Frame} {meth : Method} {c : Code} {D : va_G} {ad : Nat → Nat} {ca : Nat → ClassId} {A : Nat → Prop} {FU : Nat} {q : St} (X : FX p s m meth c prog_28_method_103_code 4 none "java/util/Arrays" D (tyF ca) A) : ∀ (n : Nat), ∀ (y1 y2 y3 : Int32) (g : St) (H : Heap) (locs : List Loc) (ls : Array Slot), va_P D cls (wF ad ca g) H → va_D A (wF ad ca g) → va_S A s.heap H locs → lv_has ls 4 [(0, .ref (ad 14)), (1, .int y1), (2, .int y2), (3, .int y3)] → Arr_fill_0_b5 FU 3 n y1 y2 y3 g = some q → W p l e (rmN 1) s m args below meth c H locs 0 0 (MQ below (fxQv D (tyF ca) A (wF ad ca q)) args s 0 0 A) (F0 m 5 ls []) := by
  have hx := X.1
  have hb := X.2.1
  intro n
  induction n with
  | zero =>
    intro y1 y2 y3 g H locs ls hP hD hS hl h
    cases h
  | succ n ih =>
    intro y1 y2 y3 g H locs ls hP hD hS hl h
    have h := h
    rw [Arr_fill_0_b5.eq_2] at h
    refine lv_iload_n hx hb d_Arr_fill_0_5 rfl (lv_at hl 2 rfl) ?_
    refine lv_iload_n hx hb d_Arr_fill_0_6 rfl (lv_at hl 3 rfl) ?_
    refine lv_icmp_ge (tgt := 20) hx hb d_Arr_fill_0_7 (by decide) (fun hc => ?_) (fun hc => ?_)
    · have h := if_t hc h
      cases h
      exact fx_vret X hP hD hS d_Arr_fill_0_20
    · have h := if_f hc h
      refine lv_aload_n hx hb d_Arr_fill_0_10 rfl (lv_at hl 0 rfl) ?_
      refine lv_iload_n hx hb d_Arr_fill_0_11 rfl (lv_at hl 2 rfl) ?_
      refine lv_iload_n hx hb d_Arr_fill_0_12 rfl (lv_at hl 1 rfl) ?_
      obtain ⟨g1, e1, h⟩ := bd_some h
      refine sF_3 X hP hD hS e1 d_Arr_fill_0_13 (fun H locs hP hD hS => ?_)
      refine lv_iinc (k := 2) (v := (y2 + (1 : Int32))) hx hb d_Arr_fill_0_14 hl rfl (oi_1 _) (by decide) rfl (fun ls hl => ?_)
      have hl : lv_has ls 4 [(2, .int (y2 + (1 : Int32))), (0, .ref (ad 14)), (1, .int y1), (3, .int y3)] := hl
      refine lv_goto (tgt := 5) hx hb d_Arr_fill_0_17 (by decide) ?_
      exact ih _ _ _ _ _ _ _ hP hD hS (lv_sub hl [1, 2, 0, 3] rfl) h
set_option maxHeartbeats 4000000 in
set_option maxRecDepth 100000 in
theorem m_Arr_fill_0_3 {l : Launch} {D : va_G} {ad : Nat → Nat} {ca : Nat → ClassId} {FU : Nat} {x1 : Int32} {g : St} {q : St} (h : Arr_fill_0 FU 3 x1 g = some q) : CV l ⟨"java/util/Arrays", "fill", "([II)V"⟩ prog_28_method_103_code 4 1 D (tyF ca) (wF ad ca g) [.ref (ad 14), .int x1] (wF ad ca q) := by
  intro sz
  refine Met.fx (Qc := fun A => fxQv D (tyF ca) A (wF ad ca q)) (by decide) (Nat.le_of_ble_eq_true rfl) ?_
  intro p e s m below meth c A ls X hP hD hl
  have hl : lv_has ls 4 [(0, .ref (ad 14)), (1, .int x1)] := hl
  have hS : va_S A s.heap s.heap [] := va_S.rf
  have hx := X.1
  have hb := X.2.1
  unfold Arr_fill_0 at h
  refine lv_iconst (v := 0) hx hb d_Arr_fill_0_0 (by decide) ?_
  refine lv_istore_n hx hb d_Arr_fill_0_1 rfl hl (by decide) rfl (fun ls hl => ?_)
  have hl : lv_has ls 4 [(2, .int (0 : Int32)), (0, .ref (ad 14)), (1, .int x1)] := hl
  refine lv_aload_n hx hb d_Arr_fill_0_2 rfl (lv_at hl 1 rfl) ?_
  refine va_alen (v := (nI (lenF 3))) hx hb X.2.2.2.2.2.2.2.1 hP 14 3 rfl rfl rfl d_Arr_fill_0_3 ?_
  refine lv_istore_n hx hb d_Arr_fill_0_4 rfl hl (by decide) rfl (fun ls hl => ?_)
  have hl : lv_has ls 4 [(3, .int (nI (lenF 3))), (2, .int (0 : Int32)), (0, .ref (ad 14)), (1, .int x1)] := hl
  exact v_Arr_fill_0_5_3 X  _ _ _ _ _ _ _ _ hP hD hS (lv_sub hl [2, 3, 1, 0] rfl) h
set_option maxHeartbeats 4000000 in
set_option maxRecDepth 100000 in
theorem v_Arr_fill_0_5_18 {p : Program} {l : Launch} {e : Env} {s : State} {m : MethodId} {args : Array Value} {below : List Frame} {meth : Method} {c : Code} {D : va_G} {ad : Nat → Nat} {ca : Nat → ClassId} {A : Nat → Prop} {FU : Nat} {q : St} (X : FX p s m meth c prog_28_method_103_code 4 none "java/util/Arrays" D (tyF ca) A) : ∀ (n : Nat), ∀ (y1 y2 y3 : Int32) (g : St) (H : Heap) (locs : List Loc) (ls : Array Slot), va_P D cls (wF ad ca g) H → va_D A (wF ad ca g) → va_S A s.heap H locs → lv_has ls 4 [(0, .ref (ad 29)), (1, .int y1), (2, .int y2), (3, .int y3)] → Arr_fill_0_b5 FU 18 n y1 y2 y3 g = some q → W p l e (rmN 1) s m args below meth c H locs 0 0 (MQ below (fxQv D (tyF ca) A (wF ad ca q)) args s 0 0 A) (F0 m 5 ls []) := by
  have hx := X.1
  have hb := X.2.1
  intro n
  induction n with
  | zero =>
    intro y1 y2 y3 g H locs ls hP hD hS hl h
    cases h
  | succ n ih =>
    intro y1 y2 y3 g H locs ls hP hD hS hl h
    have h := h
    rw [Arr_fill_0_b5.eq_2] at h
    refine lv_iload_n hx hb d_Arr_fill_0_5 rfl (lv_at hl 2 rfl) ?_
    refine lv_iload_n hx hb d_Arr_fill_0_6 rfl (lv_at hl 3 rfl) ?_
    refine lv_icmp_ge (tgt := 20) hx hb d_Arr_fill_0_7 (by decide) (fun hc => ?_) (fun hc => ?_)
    · have h := if_t hc h
      cases h
      exact fx_vret X hP hD hS d_Arr_fill_0_20
    · have h := if_f hc h
      refine lv_aload_n hx hb d_Arr_fill_0_10 rfl (lv_at hl 0 rfl) ?_
      refine lv_iload_n hx hb d_Arr_fill_0_11 rfl (lv_at hl 2 rfl) ?_
      refine lv_iload_n hx hb d_Arr_fill_0_12 rfl (lv_at hl 1 rfl) ?_
      obtain ⟨g1, e1, h⟩ := bd_some h
      refine sF_18 X hP hD hS e1 d_Arr_fill_0_13 (fun H locs hP hD hS => ?_)
      refine lv_iinc (k := 2) (v := (y2 + (1 : Int32))) hx hb d_Arr_fill_0_14 hl rfl (oi_1 _) (by decide) rfl (fun ls hl => ?_)
      have hl : lv_has ls 4 [(2, .int (y2 + (1 : Int32))), (0, .ref (ad 29)), (1, .int y1), (3, .int y3)] := hl
      refine lv_goto (tgt := 5) hx hb d_Arr_fill_0_17 (by decide) ?_
      exact ih _ _ _ _ _ _ _ hP hD hS (lv_sub hl [1, 2, 0, 3] rfl) h
set_option maxHeartbeats 4000000 in
set_option maxRecDepth 100000 in
theorem m_Arr_fill_0_18 {l : Launch} {D : va_G} {ad : Nat → Nat} {ca : Nat → ClassId} {FU : Nat} {x1 : Int32} {g : St} {q : St} (h : Arr_fill_0 FU 18 x1 g = some q) : CV l ⟨"java/util/Arrays", "fill", "([II)V"⟩ prog_28_method_103_code 4 1 D (tyF ca) (wF ad ca g) [.ref (ad 29), .int x1] (wF ad ca q) := by
  intro sz
  refine Met.fx (Qc := fun A => fxQv D (tyF ca) A (wF ad ca q)) (by decide) (Nat.le_of_ble_eq_true rfl) ?_
  intro p e s m below meth c A ls X hP hD hl
  have hl : lv_has ls 4 [(0, .ref (ad 29)), (1, .int x1)] := hl
  have hS : va_S A s.heap s.heap [] := va_S.rf
  have hx := X.1
  have hb := X.2.1
  unfold Arr_fill_0 at h
  refine lv_iconst (v := 0) hx hb d_Arr_fill_0_0 (by decide) ?_
  refine lv_istore_n hx hb d_Arr_fill_0_1 rfl hl (by decide) rfl (fun ls hl => ?_)
  have hl : lv_has ls 4 [(2, .int (0 : Int32)), (0, .ref (ad 29)), (1, .int x1)] := hl
  refine lv_aload_n hx hb d_Arr_fill_0_2 rfl (lv_at hl 1 rfl) ?_
  refine va_alen (v := (nI (lenF 18))) hx hb X.2.2.2.2.2.2.2.1 hP 29 18 rfl rfl rfl d_Arr_fill_0_3 ?_
  refine lv_istore_n hx hb d_Arr_fill_0_4 rfl hl (by decide) rfl (fun ls hl => ?_)
  have hl : lv_has ls 4 [(3, .int (nI (lenF 18))), (2, .int (0 : Int32)), (0, .ref (ad 29)), (1, .int x1)] := hl
  exact v_Arr_fill_0_5_18 X  _ _ _ _ _ _ _ _ hP hD hS (lv_sub hl [2, 3, 1, 0] rfl) h
