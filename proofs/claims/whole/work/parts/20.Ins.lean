theorem d_Ins_expect_0 : decode prog_6_method_3_code 0 = .ok (.iload_n 1, 1) := by decide +kernel
theorem d_Ins_expect_1 : decode prog_6_method_3_code 1 = .ok (.ifCond .ne 13, 3) := by decide +kernel
theorem d_Ins_expect_4 : decode prog_6_method_3_code 4 = .ok (.aload_n 0, 1) := by decide +kernel
theorem d_Ins_expect_5 : decode prog_6_method_3_code 5 = .ok (.dup, 1) := by decide +kernel
theorem d_Ins_expect_6 : decode prog_6_method_3_code 6 = .ok (.getfield 49, 3) := by decide +kernel
theorem d_Ins_expect_9 : decode prog_6_method_3_code 9 = .ok (.iconst 1, 1) := by decide +kernel
theorem d_Ins_expect_10 : decode prog_6_method_3_code 10 = .ok (.iadd, 1) := by decide +kernel
theorem d_Ins_expect_11 : decode prog_6_method_3_code 11 = .ok (.putfield 49, 3) := by decide +kernel
theorem d_Ins_expect_14 : decode prog_6_method_3_code 14 = .ok (.return_, 1) := by decide +kernel
set_option maxHeartbeats 4000000 in
set_option maxRecDepth 100000 in
theorem m_Ins_expect {l : Launch} {D : va_G} {ad : Nat → Nat} {ca : Nat → ClassId} {FU : Nat} {x1 : Int32} {g : St} {q : St} (h : Ins_expect FU x1 g = some q) : CV l ⟨"FlashFiles$Inspector", "expect", "(Z)V"⟩ prog_6_method_3_code 2 1 D (tyF ca) (wF ad ca g) [.ref (ad 10), .int x1] (wF ad ca q) := by
  intro sz
  refine Met.fx (Qc := fun A => fxQv D (tyF ca) A (wF ad ca q)) (by decide) (Nat.le_of_ble_eq_true rfl) ?_
  intro p e s m below meth c A ls X hP hD hl
  have hl : lv_has ls 2 [(0, .ref (ad 10)), (1, .int x1)] := hl
  have hS : va_S A s.heap s.heap [] := va_S.rf
  have hx := X.1
  have hb := X.2.1
  unfold Ins_expect at h
  refine lv_iload_n hx hb d_Ins_expect_0 rfl (lv_at hl 1 rfl) ?_
  refine lv_if_ne (tgt := 14) hx hb d_Ins_expect_1 (by decide) (fun hc => ?_) (fun hc => ?_)
  · have h := if_f hc h
    cases h
    exact fx_vret X hP hD hS d_Ins_expect_14
  · have h := if_t hc h
    refine lv_aload_n hx hb d_Ins_expect_4 rfl (lv_at hl 0 rfl) ?_
    refine lv_dup hx hb d_Ins_expect_5 rfl ?_
    refine gF_ins_found X hP d_Ins_expect_6 ?_
    refine lv_iconst (v := 1) hx hb d_Ins_expect_9 (by decide) ?_
    refine lv_iadd hx hb d_Ins_expect_10 ?_
    obtain ⟨g1, e1, h⟩ := nx_some h
    refine uF_ins_found X hP hD hS e1 d_Ins_expect_11 (fun H locs hP hD hS => ?_)
    cases h
    exact fx_vret X hP hD hS d_Ins_expect_14
theorem d_Ins_inspectFree_0 : decode prog_6_method_13_code 0 = .ok (.iconst 0, 1) := by decide +kernel
theorem d_Ins_inspectFree_1 : decode prog_6_method_13_code 1 = .ok (.istore_n 1, 1) := by decide +kernel
theorem d_Ins_inspectFree_2 : decode prog_6_method_13_code 2 = .ok (.iconst 0, 1) := by decide +kernel
theorem d_Ins_inspectFree_3 : decode prog_6_method_13_code 3 = .ok (.istore_n 2, 1) := by decide +kernel
theorem d_Ins_inspectFree_4 : decode prog_6_method_13_code 4 = .ok (.iload_n 2, 1) := by decide +kernel
theorem d_Ins_inspectFree_5 : decode prog_6_method_13_code 5 = .ok (.aload_n 0, 1) := by decide +kernel
theorem d_Ins_inspectFree_6 : decode prog_6_method_13_code 6 = .ok (.getfield 19, 3) := by decide +kernel
theorem d_Ins_inspectFree_9 : decode prog_6_method_13_code 9 = .ok (.invokevirtual 66, 3) := by decide +kernel
theorem d_Ins_inspectFree_12 : decode prog_6_method_13_code 12 = .ok (.if_icmp .ge 28, 3) := by decide +kernel
theorem d_Ins_inspectFree_15 : decode prog_6_method_13_code 15 = .ok (.iload_n 1, 1) := by decide +kernel
theorem d_Ins_inspectFree_16 : decode prog_6_method_13_code 16 = .ok (.aload_n 0, 1) := by decide +kernel
theorem d_Ins_inspectFree_17 : decode prog_6_method_13_code 17 = .ok (.getfield 19, 3) := by decide +kernel
theorem d_Ins_inspectFree_20 : decode prog_6_method_13_code 20 = .ok (.iload_n 2, 1) := by decide +kernel
theorem d_Ins_inspectFree_21 : decode prog_6_method_13_code 21 = .ok (.invokevirtual 154, 3) := by decide +kernel
theorem d_Ins_inspectFree_24 : decode prog_6_method_13_code 24 = .ok (.ifCond .eq 7, 3) := by decide +kernel
theorem d_Ins_inspectFree_27 : decode prog_6_method_13_code 27 = .ok (.iconst 1, 1) := by decide +kernel
theorem d_Ins_inspectFree_28 : decode prog_6_method_13_code 28 = .ok (.goto 4, 3) := by decide +kernel
theorem d_Ins_inspectFree_31 : decode prog_6_method_13_code 31 = .ok (.iconst 0, 1) := by decide +kernel
theorem d_Ins_inspectFree_32 : decode prog_6_method_13_code 32 = .ok (.iadd, 1) := by decide +kernel
theorem d_Ins_inspectFree_33 : decode prog_6_method_13_code 33 = .ok (.istore_n 1, 1) := by decide +kernel
theorem d_Ins_inspectFree_34 : decode prog_6_method_13_code 34 = .ok (.iinc 2 1, 3) := by decide +kernel
theorem d_Ins_inspectFree_37 : decode prog_6_method_13_code 37 = .ok (.goto (-33), 3) := by decide +kernel
theorem d_Ins_inspectFree_40 : decode prog_6_method_13_code 40 = .ok (.aload_n 0, 1) := by decide +kernel
theorem d_Ins_inspectFree_41 : decode prog_6_method_13_code 41 = .ok (.iload_n 1, 1) := by decide +kernel
theorem d_Ins_inspectFree_42 : decode prog_6_method_13_code 42 = .ok (.aload_n 0, 1) := by decide +kernel
theorem d_Ins_inspectFree_43 : decode prog_6_method_13_code 43 = .ok (.getfield 19, 3) := by decide +kernel
theorem d_Ins_inspectFree_46 : decode prog_6_method_13_code 46 = .ok (.invokevirtual 157, 3) := by decide +kernel
theorem d_Ins_inspectFree_49 : decode prog_6_method_13_code 49 = .ok (.if_icmp .ne 7, 3) := by decide +kernel
theorem d_Ins_inspectFree_52 : decode prog_6_method_13_code 52 = .ok (.iconst 1, 1) := by decide +kernel
theorem d_Ins_inspectFree_53 : decode prog_6_method_13_code 53 = .ok (.goto 4, 3) := by decide +kernel
theorem d_Ins_inspectFree_56 : decode prog_6_method_13_code 56 = .ok (.iconst 0, 1) := by decide +kernel
theorem d_Ins_inspectFree_57 : decode prog_6_method_13_code 57 = .ok (.invokevirtual 92, 3) := by decide +kernel
theorem d_Ins_inspectFree_60 : decode prog_6_method_13_code 60 = .ok (.return_, 1) := by decide +kernel
set_option maxHeartbeats 4000000 in
set_option maxRecDepth 100000 in
theorem v_Ins_inspectFree_57 {p : Program} {l : Launch} {e : Env} {s : State} {m : MethodId} {args : Array Value} {below : List Frame} {meth : Method} {c : Code} {D : va_G} {ad : Nat → Nat} {ca : Nat → ClassId} {A : Nat → Prop} {FU : Nat} {q : St} (X : FX p s m meth c prog_6_method_13_code 3 none "FlashFiles$Inspector" D (tyF ca) A) {z0 : Int32} {g : St} {H : Heap} {locs : List Loc} {ls : Array Slot} (hP : va_P D cls (wF ad ca g) H) (hD : va_D A (wF ad ca g)) (hS : va_S A s.heap H locs) (hl : lv_has ls 3 []) (h : Ins_inspectFree_b57 FU z0 g = some q) : W p l e (rmN 2) s m args below meth c H locs 0 0 (MQ below (fxQv D (tyF ca) A (wF ad ca q)) args s 0 0 A) (F0 m 57 ls [.int z0, .ref (ad 10)]) := by
  have hx := X.1
  have hb := X.2.1
  unfold Ins_inspectFree_b57 at h
  obtain ⟨p1, e1, h⟩ := bd_some h
  refine fx_v X (fx_runV (As := [.int z0]) X (m_Ins_expect e1 _) hP hD kv_Ins_92 ⟨Nat.le_of_ble_eq_true rfl, Nat.le_of_ble_eq_true rfl⟩ 10 rfl rfl rfl hl.1 rfl (Nat.le_of_ble_eq_true rfl) d_Ins_inspectFree_57) hD hS (fun H locs hP hD hS => ?_)
  cases h
  exact fx_vret X hP hD hS d_Ins_inspectFree_60
set_option maxHeartbeats 4000000 in
set_option maxRecDepth 100000 in
theorem v_Ins_inspectFree_32 {p : Program} {l : Launch} {e : Env} {s : State} {m : MethodId} {args : Array Value} {below : List Frame} {meth : Method} {c : Code} {D : va_G} {ad : Nat → Nat} {ca : Nat → ClassId} {A : Nat → Prop} {FU : Nat} {q : St} (X : FX p s m meth c prog_6_method_13_code 3 none "FlashFiles$Inspector" D (tyF ca) A) {k4 : Int32 → Int32 → St → Option (St)} (hk4 : ∀ (y1 y2 : Int32) (g : St) (H : Heap) (locs : List Loc) (ls : Array Slot), va_P D cls (wF ad ca g) H → va_D A (wF ad ca g) → va_S A s.heap H locs → lv_has ls 3 [(0, .ref (ad 10)), (1, .int y1), (2, .int y2)] → k4 y1 y2 g = some q → W p l e (rmN 2) s m args below meth c H locs 0 0 (MQ below (fxQv D (tyF ca) A (wF ad ca q)) args s 0 0 A) (F0 m 4 ls [])) {y2 : Int32} {z0 : Int32} {z1 : Int32} {g : St} {H : Heap} {locs : List Loc} {ls : Array Slot} (hP : va_P D cls (wF ad ca g) H) (hD : va_D A (wF ad ca g)) (hS : va_S A s.heap H locs) (hl : lv_has ls 3 [(0, .ref (ad 10)), (2, .int y2)]) (h : Ins_inspectFree_b32 FU k4 y2 z0 z1 g = some q) : W p l e (rmN 2) s m args below meth c H locs 0 0 (MQ below (fxQv D (tyF ca) A (wF ad ca q)) args s 0 0 A) (F0 m 32 ls [.int z0, .int z1]) := by
  have hx := X.1
  have hb := X.2.1
  unfold Ins_inspectFree_b32 at h
  refine lv_iadd hx hb d_Ins_inspectFree_32 ?_
  refine lv_istore_n hx hb d_Ins_inspectFree_33 rfl hl (by decide) rfl (fun ls hl => ?_)
  have hl : lv_has ls 3 [(1, .int (z1 + z0)), (0, .ref (ad 10)), (2, .int y2)] := hl
  refine lv_iinc (k := 2) (v := (y2 + (1 : Int32))) hx hb d_Ins_inspectFree_34 hl rfl (oi_1 _) (by decide) rfl (fun ls hl => ?_)
  have hl : lv_has ls 3 [(2, .int (y2 + (1 : Int32))), (1, .int (z1 + z0)), (0, .ref (ad 10))] := hl
  refine lv_goto (tgt := 4) hx hb d_Ins_inspectFree_37 (by decide) ?_
  exact hk4 _ _ _ _ _ _ hP hD hS (lv_sub hl [2, 1, 0] rfl) h
set_option maxHeartbeats 4000000 in
set_option maxRecDepth 100000 in
theorem v_Ins_inspectFree_4 {p : Program} {l : Launch} {e : Env} {s : State} {m : MethodId} {args : Array Value} {below : List Frame} {meth : Method} {c : Code} {D : va_G} {ad : Nat → Nat} {ca : Nat → ClassId} {A : Nat → Prop} {FU : Nat} {q : St} (X : FX p s m meth c prog_6_method_13_code 3 none "FlashFiles$Inspector" D (tyF ca) A) : ∀ (n : Nat), ∀ (y1 y2 : Int32) (g : St) (H : Heap) (locs : List Loc) (ls : Array Slot), va_P D cls (wF ad ca g) H → va_D A (wF ad ca g) → va_S A s.heap H locs → lv_has ls 3 [(0, .ref (ad 10)), (1, .int y1), (2, .int y2)] → Ins_inspectFree_b4 FU n y1 y2 g = some q → W p l e (rmN 2) s m args below meth c H locs 0 0 (MQ below (fxQv D (tyF ca) A (wF ad ca q)) args s 0 0 A) (F0 m 4 ls []) := by
  have hx := X.1
  have hb := X.2.1
  intro n
  induction n with
  | zero =>
    intro y1 y2 g H locs ls hP hD hS hl h
    cases h
  | succ n ih =>
    intro y1 y2 g H locs ls hP hD hS hl h
    have h := h
    rw [Ins_inspectFree_b4.eq_2] at h
    refine lv_iload_n hx hb d_Ins_inspectFree_4 rfl (lv_at hl 2 rfl) ?_
    refine lv_aload_n hx hb d_Ins_inspectFree_5 rfl (lv_at hl 0 rfl) ?_
    refine gF_ins_log X hP d_Ins_inspectFree_6 ?_
    obtain ⟨v2, e1, h⟩ := bd_some h
    refine fx_i X (fx_runV (As := []) X (m_Log_segments e1 _) hP hD kv_Ins_66 ⟨Nat.le_of_ble_eq_true rfl, Nat.le_of_ble_eq_true rfl⟩ 5 rfl rfl rfl hl.1 rfl (Nat.le_of_ble_eq_true rfl) d_Ins_inspectFree_9) hD hS (fun H locs hP hD hS => ?_)
    refine lv_icmp_ge (tgt := 40) hx hb d_Ins_inspectFree_12 (by decide) (fun hc => ?_) (fun hc => ?_)
    · have h := if_t hc h
      refine lv_aload_n hx hb d_Ins_inspectFree_40 rfl (lv_at hl 0 rfl) ?_
      refine lv_iload_n hx hb d_Ins_inspectFree_41 rfl (lv_at hl 1 rfl) ?_
      refine lv_aload_n hx hb d_Ins_inspectFree_42 rfl (lv_at hl 0 rfl) ?_
      refine gF_ins_log X hP d_Ins_inspectFree_43 ?_
      obtain ⟨v3, e1, h⟩ := bd_some h
      refine fx_i X (fx_runV (As := []) X (m_Log_freeSegments e1 _) hP hD kv_Ins_157 ⟨Nat.le_of_ble_eq_true rfl, Nat.le_of_ble_eq_true rfl⟩ 5 rfl rfl rfl hl.1 rfl (Nat.le_of_ble_eq_true rfl) d_Ins_inspectFree_46) hD hS (fun H locs hP hD hS => ?_)
      refine lv_icmp_ne (tgt := 56) hx hb d_Ins_inspectFree_49 (by decide) (fun hc => ?_) (fun hc => ?_)
      · have h := if_f hc h
        refine lv_iconst (v := 0) hx hb d_Ins_inspectFree_56 (by decide) ?_
        exact v_Ins_inspectFree_57 X  hP hD hS (lv_sub hl [] rfl) h
      · have h := if_t hc h
        refine lv_iconst (v := 1) hx hb d_Ins_inspectFree_52 (by decide) ?_
        refine lv_goto (tgt := 57) hx hb d_Ins_inspectFree_53 (by decide) ?_
        exact v_Ins_inspectFree_57 X  hP hD hS (lv_sub hl [] rfl) h
    · have h := if_f hc h
      refine lv_iload_n hx hb d_Ins_inspectFree_15 rfl (lv_at hl 1 rfl) ?_
      refine lv_aload_n hx hb d_Ins_inspectFree_16 rfl (lv_at hl 0 rfl) ?_
      refine gF_ins_log X hP d_Ins_inspectFree_17 ?_
      refine lv_iload_n hx hb d_Ins_inspectFree_20 rfl (lv_at hl 2 rfl) ?_
      obtain ⟨v4, e1, h⟩ := bd_some h
      refine fx_i X (fx_runV (As := [.int y2]) X (m_Log_isFree e1 _) hP hD kv_Ins_154 ⟨Nat.le_of_ble_eq_true rfl, Nat.le_of_ble_eq_true rfl⟩ 5 rfl rfl rfl hl.1 rfl (Nat.le_of_ble_eq_true rfl) d_Ins_inspectFree_21) hD hS (fun H locs hP hD hS => ?_)
      refine lv_if_eq (tgt := 31) hx hb d_Ins_inspectFree_24 (by decide) (fun hc => ?_) (fun hc => ?_)
      · have h := if_t hc h
        refine lv_iconst (v := 0) hx hb d_Ins_inspectFree_31 (by decide) ?_
        exact v_Ins_inspectFree_32 X ih hP hD hS (lv_sub hl [0, 2] rfl) h
      · have h := if_f hc h
        refine lv_iconst (v := 1) hx hb d_Ins_inspectFree_27 (by decide) ?_
        refine lv_goto (tgt := 32) hx hb d_Ins_inspectFree_28 (by decide) ?_
        exact v_Ins_inspectFree_32 X ih hP hD hS (lv_sub hl [0, 2] rfl) h
set_option maxHeartbeats 4000000 in
set_option maxRecDepth 100000 in
theorem m_Ins_inspectFree {l : Launch} {D : va_G} {ad : Nat → Nat} {ca : Nat → ClassId} {FU : Nat} {g : St} {q : St} (h : Ins_inspectFree FU  g = some q) : CV l ⟨"FlashFiles$Inspector", "inspectFree", "()V"⟩ prog_6_method_13_code 3 2 D (tyF ca) (wF ad ca g) [.ref (ad 10)] (wF ad ca q) := by
  intro sz
  refine Met.fx (Qc := fun A => fxQv D (tyF ca) A (wF ad ca q)) (by decide) (Nat.le_of_ble_eq_true rfl) ?_
  intro p e s m below meth c A ls X hP hD hl
  have hl : lv_has ls 3 [(0, .ref (ad 10))] := hl
  have hS : va_S A s.heap s.heap [] := va_S.rf
  have hx := X.1
  have hb := X.2.1
  unfold Ins_inspectFree at h
  refine lv_iconst (v := 0) hx hb d_Ins_inspectFree_0 (by decide) ?_
  refine lv_istore_n hx hb d_Ins_inspectFree_1 rfl hl (by decide) rfl (fun ls hl => ?_)
  have hl : lv_has ls 3 [(1, .int (0 : Int32)), (0, .ref (ad 10))] := hl
  refine lv_iconst (v := 0) hx hb d_Ins_inspectFree_2 (by decide) ?_
  refine lv_istore_n hx hb d_Ins_inspectFree_3 rfl hl (by decide) rfl (fun ls hl => ?_)
  have hl : lv_has ls 3 [(2, .int (0 : Int32)), (1, .int (0 : Int32)), (0, .ref (ad 10))] := hl
  exact v_Ins_inspectFree_4 X  _ _ _ _ _ _ _ hP hD hS (lv_sub hl [2, 1, 0] rfl) h
theorem d_Ins_inspectLed_0 : decode prog_6_method_11_code 0 = .ok (.iload_n 2, 1) := by decide +kernel
theorem d_Ins_inspectLed_1 : decode prog_6_method_11_code 1 = .ok (.ifCond .eq 8, 3) := by decide +kernel
theorem d_Ins_inspectLed_4 : decode prog_6_method_11_code 4 = .ok (.iload_n 1, 1) := by decide +kernel
theorem d_Ins_inspectLed_5 : decode prog_6_method_11_code 5 = .ok (.iconst 1, 1) := by decide +kernel
theorem d_Ins_inspectLed_6 : decode prog_6_method_11_code 6 = .ok (.if_icmp .ne 7, 3) := by decide +kernel
theorem d_Ins_inspectLed_9 : decode prog_6_method_11_code 9 = .ok (.iconst 0, 1) := by decide +kernel
theorem d_Ins_inspectLed_10 : decode prog_6_method_11_code 10 = .ok (.goto 4, 3) := by decide +kernel
theorem d_Ins_inspectLed_13 : decode prog_6_method_11_code 13 = .ok (.iconst 1, 1) := by decide +kernel
theorem d_Ins_inspectLed_14 : decode prog_6_method_11_code 14 = .ok (.istore_n 3, 1) := by decide +kernel
theorem d_Ins_inspectLed_15 : decode prog_6_method_11_code 15 = .ok (.iload_n 2, 1) := by decide +kernel
theorem d_Ins_inspectLed_16 : decode prog_6_method_11_code 16 = .ok (.ifCond .eq 33, 3) := by decide +kernel
theorem d_Ins_inspectLed_19 : decode prog_6_method_11_code 19 = .ok (.iload_n 1, 1) := by decide +kernel
theorem d_Ins_inspectLed_20 : decode prog_6_method_11_code 20 = .ok (.sipush 250, 3) := by decide +kernel
theorem d_Ins_inspectLed_23 : decode prog_6_method_11_code 23 = .ok (.if_icmp .gt 26, 3) := by decide +kernel
theorem d_Ins_inspectLed_26 : decode prog_6_method_11_code 26 = .ok (.aload_n 0, 1) := by decide +kernel
theorem d_Ins_inspectLed_27 : decode prog_6_method_11_code 27 = .ok (.getfield 9, 3) := by decide +kernel
theorem d_Ins_inspectLed_30 : decode prog_6_method_11_code 30 = .ok (.iload_n 2, 1) := by decide +kernel
theorem d_Ins_inspectLed_31 : decode prog_6_method_11_code 31 = .ok (.iconst 0, 1) := by decide +kernel
theorem d_Ins_inspectLed_32 : decode prog_6_method_11_code 32 = .ok (.invokevirtual 103, 3) := by decide +kernel
theorem d_Ins_inspectLed_35 : decode prog_6_method_11_code 35 = .ok (.iconst 1, 1) := by decide +kernel
theorem d_Ins_inspectLed_36 : decode prog_6_method_11_code 36 = .ok (.if_icmp .ne 13, 3) := by decide +kernel
theorem d_Ins_inspectLed_39 : decode prog_6_method_11_code 39 = .ok (.aload_n 0, 1) := by decide +kernel
theorem d_Ins_inspectLed_40 : decode prog_6_method_11_code 40 = .ok (.getfield 9, 3) := by decide +kernel
theorem d_Ins_inspectLed_43 : decode prog_6_method_11_code 43 = .ok (.iload_n 2, 1) := by decide +kernel
theorem d_Ins_inspectLed_44 : decode prog_6_method_11_code 44 = .ok (.iconst 2, 1) := by decide +kernel
theorem d_Ins_inspectLed_45 : decode prog_6_method_11_code 45 = .ok (.invokevirtual 103, 3) := by decide +kernel
theorem d_Ins_inspectLed_48 : decode prog_6_method_11_code 48 = .ok (.istore_n 3, 1) := by decide +kernel
theorem d_Ins_inspectLed_49 : decode prog_6_method_11_code 49 = .ok (.aload_n 0, 1) := by decide +kernel
theorem d_Ins_inspectLed_50 : decode prog_6_method_11_code 50 = .ok (.aload_n 0, 1) := by decide +kernel
theorem d_Ins_inspectLed_51 : decode prog_6_method_11_code 51 = .ok (.getfield 31, 3) := by decide +kernel
theorem d_Ins_inspectLed_54 : decode prog_6_method_11_code 54 = .ok (.iload_n 1, 1) := by decide +kernel
theorem d_Ins_inspectLed_55 : decode prog_6_method_11_code 55 = .ok (.iaload, 1) := by decide +kernel
theorem d_Ins_inspectLed_56 : decode prog_6_method_11_code 56 = .ok (.iload_n 3, 1) := by decide +kernel
theorem d_Ins_inspectLed_57 : decode prog_6_method_11_code 57 = .ok (.if_icmp .ne 7, 3) := by decide +kernel
theorem d_Ins_inspectLed_60 : decode prog_6_method_11_code 60 = .ok (.iconst 1, 1) := by decide +kernel
theorem d_Ins_inspectLed_61 : decode prog_6_method_11_code 61 = .ok (.goto 4, 3) := by decide +kernel
theorem d_Ins_inspectLed_64 : decode prog_6_method_11_code 64 = .ok (.iconst 0, 1) := by decide +kernel
theorem d_Ins_inspectLed_65 : decode prog_6_method_11_code 65 = .ok (.invokevirtual 92, 3) := by decide +kernel
theorem d_Ins_inspectLed_68 : decode prog_6_method_11_code 68 = .ok (.return_, 1) := by decide +kernel
set_option maxHeartbeats 4000000 in
set_option maxRecDepth 100000 in
theorem v_Ins_inspectLed_65 {p : Program} {l : Launch} {e : Env} {s : State} {m : MethodId} {args : Array Value} {below : List Frame} {meth : Method} {c : Code} {D : va_G} {ad : Nat → Nat} {ca : Nat → ClassId} {A : Nat → Prop} {FU : Nat} {q : St} (X : FX p s m meth c prog_6_method_11_code 4 none "FlashFiles$Inspector" D (tyF ca) A) {z0 : Int32} {g : St} {H : Heap} {locs : List Loc} {ls : Array Slot} (hP : va_P D cls (wF ad ca g) H) (hD : va_D A (wF ad ca g)) (hS : va_S A s.heap H locs) (hl : lv_has ls 4 []) (h : Ins_inspectLed_b65 FU z0 g = some q) : W p l e (rmN 2) s m args below meth c H locs 0 0 (MQ below (fxQv D (tyF ca) A (wF ad ca q)) args s 0 0 A) (F0 m 65 ls [.int z0, .ref (ad 10)]) := by
  have hx := X.1
  have hb := X.2.1
  unfold Ins_inspectLed_b65 at h
  obtain ⟨p1, e1, h⟩ := bd_some h
  refine fx_v X (fx_runV (As := [.int z0]) X (m_Ins_expect e1 _) hP hD kv_Ins_92 ⟨Nat.le_of_ble_eq_true rfl, Nat.le_of_ble_eq_true rfl⟩ 10 rfl rfl rfl hl.1 rfl (Nat.le_of_ble_eq_true rfl) d_Ins_inspectLed_65) hD hS (fun H locs hP hD hS => ?_)
  cases h
  exact fx_vret X hP hD hS d_Ins_inspectLed_68
set_option maxHeartbeats 4000000 in
set_option maxRecDepth 100000 in
theorem v_Ins_inspectLed_49 {p : Program} {l : Launch} {e : Env} {s : State} {m : MethodId} {args : Array Value} {below : List Frame} {meth : Method} {c : Code} {D : va_G} {ad : Nat → Nat} {ca : Nat → ClassId} {A : Nat → Prop} {FU : Nat} {q : St} (X : FX p s m meth c prog_6_method_11_code 4 none "FlashFiles$Inspector" D (tyF ca) A) {y1 : Int32} {y3 : Int32} {g : St} {H : Heap} {locs : List Loc} {ls : Array Slot} (hP : va_P D cls (wF ad ca g) H) (hD : va_D A (wF ad ca g)) (hS : va_S A s.heap H locs) (hl : lv_has ls 4 [(0, .ref (ad 10)), (1, .int y1), (3, .int y3)]) (h : Ins_inspectLed_b49 FU y1 y3 g = some q) : W p l e (rmN 2) s m args below meth c H locs 0 0 (MQ below (fxQv D (tyF ca) A (wF ad ca q)) args s 0 0 A) (F0 m 49 ls []) := by
  have hx := X.1
  have hb := X.2.1
  unfold Ins_inspectLed_b49 at h
  refine lv_aload_n hx hb d_Ins_inspectLed_49 rfl (lv_at hl 0 rfl) ?_
  refine lv_aload_n hx hb d_Ins_inspectLed_50 rfl (lv_at hl 0 rfl) ?_
  refine gF_ins_led X hP d_Ins_inspectLed_51 ?_
  refine lv_iload_n hx hb d_Ins_inspectLed_54 rfl (lv_at hl 1 rfl) ?_
  obtain ⟨v2, e1, h⟩ := bd_some h
  refine rF_25 X hP e1 d_Ins_inspectLed_55 ?_
  refine lv_iload_n hx hb d_Ins_inspectLed_56 rfl (lv_at hl 2 rfl) ?_
  refine lv_icmp_ne (tgt := 64) hx hb d_Ins_inspectLed_57 (by decide) (fun hc => ?_) (fun hc => ?_)
  · have h := if_f hc h
    refine lv_iconst (v := 0) hx hb d_Ins_inspectLed_64 (by decide) ?_
    exact v_Ins_inspectLed_65 X  hP hD hS (lv_sub hl [] rfl) h
  · have h := if_t hc h
    refine lv_iconst (v := 1) hx hb d_Ins_inspectLed_60 (by decide) ?_
    refine lv_goto (tgt := 65) hx hb d_Ins_inspectLed_61 (by decide) ?_
    exact v_Ins_inspectLed_65 X  hP hD hS (lv_sub hl [] rfl) h
set_option maxHeartbeats 4000000 in
set_option maxRecDepth 100000 in
theorem v_Ins_inspectLed_14 {p : Program} {l : Launch} {e : Env} {s : State} {m : MethodId} {args : Array Value} {below : List Frame} {meth : Method} {c : Code} {D : va_G} {ad : Nat → Nat} {ca : Nat → ClassId} {A : Nat → Prop} {FU : Nat} {q : St} (X : FX p s m meth c prog_6_method_11_code 4 none "FlashFiles$Inspector" D (tyF ca) A) {y1 : Int32} {y2 : Int32} {z0 : Int32} {g : St} {H : Heap} {locs : List Loc} {ls : Array Slot} (hP : va_P D cls (wF ad ca g) H) (hD : va_D A (wF ad ca g)) (hS : va_S A s.heap H locs) (hl : lv_has ls 4 [(0, .ref (ad 10)), (1, .int y1), (2, .int y2)]) (h : Ins_inspectLed_b14 FU y1 y2 z0 g = some q) : W p l e (rmN 2) s m args below meth c H locs 0 0 (MQ below (fxQv D (tyF ca) A (wF ad ca q)) args s 0 0 A) (F0 m 14 ls [.int z0]) := by
  have hx := X.1
  have hb := X.2.1
  unfold Ins_inspectLed_b14 at h
  refine lv_istore_n hx hb d_Ins_inspectLed_14 rfl hl (by decide) rfl (fun ls hl => ?_)
  have hl : lv_has ls 4 [(3, .int z0), (0, .ref (ad 10)), (1, .int y1), (2, .int y2)] := hl
  refine lv_iload_n hx hb d_Ins_inspectLed_15 rfl (lv_at hl 3 rfl) ?_
  refine lv_if_eq (tgt := 49) hx hb d_Ins_inspectLed_16 (by decide) (fun hc => ?_) (fun hc => ?_)
  · have h := if_t hc h
    exact v_Ins_inspectLed_49 X  hP hD hS (lv_sub hl [1, 2, 0] rfl) h
  · have h := if_f hc h
    refine lv_iload_n hx hb d_Ins_inspectLed_19 rfl (lv_at hl 2 rfl) ?_
    refine lv_sipush (v := 250) hx hb d_Ins_inspectLed_20 (by decide) ?_
    refine lv_icmp_gt (tgt := 49) hx hb d_Ins_inspectLed_23 (by decide) (fun hc => ?_) (fun hc => ?_)
    · have h := if_t hc h
      exact v_Ins_inspectLed_49 X  hP hD hS (lv_sub hl [1, 2, 0] rfl) h
    · have h := if_f hc h
      refine lv_aload_n hx hb d_Ins_inspectLed_26 rfl (lv_at hl 1 rfl) ?_
      refine gF_ins_device X hP d_Ins_inspectLed_27 ?_
      refine lv_iload_n hx hb d_Ins_inspectLed_30 rfl (lv_at hl 3 rfl) ?_
      refine lv_iconst (v := 0) hx hb d_Ins_inspectLed_31 (by decide) ?_
      obtain ⟨v3, e1, h⟩ := bd_some h
      refine fx_i X (fx_runV (As := [.int y2, .int (0 : Int32)]) X (m_Dev_word e1 _) hP hD kv_Ins_103 ⟨Nat.le_of_ble_eq_true rfl, Nat.le_of_ble_eq_true rfl⟩ 3 rfl rfl rfl hl.1 rfl (Nat.le_of_ble_eq_true rfl) d_Ins_inspectLed_32) hD hS (fun H locs hP hD hS => ?_)
      refine lv_iconst (v := 1) hx hb d_Ins_inspectLed_35 (by decide) ?_
      refine lv_icmp_ne (tgt := 49) hx hb d_Ins_inspectLed_36 (by decide) (fun hc => ?_) (fun hc => ?_)
      · have h := if_f hc h
        exact v_Ins_inspectLed_49 X  hP hD hS (lv_sub hl [1, 2, 0] rfl) h
      · have h := if_t hc h
        refine lv_aload_n hx hb d_Ins_inspectLed_39 rfl (lv_at hl 1 rfl) ?_
        refine gF_ins_device X hP d_Ins_inspectLed_40 ?_
        refine lv_iload_n hx hb d_Ins_inspectLed_43 rfl (lv_at hl 3 rfl) ?_
        refine lv_iconst (v := 2) hx hb d_Ins_inspectLed_44 (by decide) ?_
        obtain ⟨v4, e1, h⟩ := bd_some h
        refine fx_i X (fx_runV (As := [.int y2, .int (2 : Int32)]) X (m_Dev_word e1 _) hP hD kv_Ins_103 ⟨Nat.le_of_ble_eq_true rfl, Nat.le_of_ble_eq_true rfl⟩ 3 rfl rfl rfl hl.1 rfl (Nat.le_of_ble_eq_true rfl) d_Ins_inspectLed_45) hD hS (fun H locs hP hD hS => ?_)
        refine lv_istore_n hx hb d_Ins_inspectLed_48 rfl hl (by decide) rfl (fun ls hl => ?_)
        have hl : lv_has ls 4 [(3, .int v4), (0, .ref (ad 10)), (1, .int y1), (2, .int y2)] := hl
        exact v_Ins_inspectLed_49 X  hP hD hS (lv_sub hl [1, 2, 0] rfl) h
set_option maxHeartbeats 4000000 in
set_option maxRecDepth 100000 in
theorem v_Ins_inspectLed_9 {p : Program} {l : Launch} {e : Env} {s : State} {m : MethodId} {args : Array Value} {below : List Frame} {meth : Method} {c : Code} {D : va_G} {ad : Nat → Nat} {ca : Nat → ClassId} {A : Nat → Prop} {FU : Nat} {q : St} (X : FX p s m meth c prog_6_method_11_code 4 none "FlashFiles$Inspector" D (tyF ca) A) {y1 : Int32} {y2 : Int32} {g : St} {H : Heap} {locs : List Loc} {ls : Array Slot} (hP : va_P D cls (wF ad ca g) H) (hD : va_D A (wF ad ca g)) (hS : va_S A s.heap H locs) (hl : lv_has ls 4 [(0, .ref (ad 10)), (1, .int y1), (2, .int y2)]) (h : Ins_inspectLed_b9 FU y1 y2 g = some q) : W p l e (rmN 2) s m args below meth c H locs 0 0 (MQ below (fxQv D (tyF ca) A (wF ad ca q)) args s 0 0 A) (F0 m 9 ls []) := by
  have hx := X.1
  have hb := X.2.1
  unfold Ins_inspectLed_b9 at h
  refine lv_iconst (v := 0) hx hb d_Ins_inspectLed_9 (by decide) ?_
  refine lv_goto (tgt := 14) hx hb d_Ins_inspectLed_10 (by decide) ?_
  exact v_Ins_inspectLed_14 X  hP hD hS (lv_sub hl [0, 1, 2] rfl) h
set_option maxHeartbeats 4000000 in
set_option maxRecDepth 100000 in
theorem m_Ins_inspectLed {l : Launch} {D : va_G} {ad : Nat → Nat} {ca : Nat → ClassId} {FU : Nat} {x1 : Int32} {x2 : Int32} {g : St} {q : St} (h : Ins_inspectLed FU x1 x2 g = some q) : CV l ⟨"FlashFiles$Inspector", "inspectLed", "(II)V"⟩ prog_6_method_11_code 4 2 D (tyF ca) (wF ad ca g) [.ref (ad 10), .int x1, .int x2] (wF ad ca q) := by
  intro sz
  refine Met.fx (Qc := fun A => fxQv D (tyF ca) A (wF ad ca q)) (by decide) (Nat.le_of_ble_eq_true rfl) ?_
  intro p e s m below meth c A ls X hP hD hl
  have hl : lv_has ls 4 [(0, .ref (ad 10)), (1, .int x1), (2, .int x2)] := hl
  have hS : va_S A s.heap s.heap [] := va_S.rf
  have hx := X.1
  have hb := X.2.1
  unfold Ins_inspectLed at h
  refine lv_iload_n hx hb d_Ins_inspectLed_0 rfl (lv_at hl 2 rfl) ?_
  refine lv_if_eq (tgt := 9) hx hb d_Ins_inspectLed_1 (by decide) (fun hc => ?_) (fun hc => ?_)
  · have h := if_t hc h
    exact v_Ins_inspectLed_9 X  hP hD hS (lv_sub hl [0, 1, 2] rfl) h
  · have h := if_f hc h
    refine lv_iload_n hx hb d_Ins_inspectLed_4 rfl (lv_at hl 1 rfl) ?_
    refine lv_iconst (v := 1) hx hb d_Ins_inspectLed_5 (by decide) ?_
    refine lv_icmp_ne (tgt := 13) hx hb d_Ins_inspectLed_6 (by decide) (fun hc => ?_) (fun hc => ?_)
    · have h := if_f hc h
      refine lv_iconst (v := 1) hx hb d_Ins_inspectLed_13 (by decide) ?_
      exact v_Ins_inspectLed_14 X  hP hD hS (lv_sub hl [0, 1, 2] rfl) h
    · have h := if_t hc h
      exact v_Ins_inspectLed_9 X  hP hD hS (lv_sub hl [0, 1, 2] rfl) h
theorem d_Ins_lead_0 : decode prog_6_method_5_code 0 = .ok (.iload_n 1, 1) := by decide +kernel
theorem d_Ins_lead_1 : decode prog_6_method_5_code 1 = .ok (.ifCond .eq 48, 3) := by decide +kernel
theorem d_Ins_lead_4 : decode prog_6_method_5_code 4 = .ok (.aload_n 0, 1) := by decide +kernel
theorem d_Ins_lead_5 : decode prog_6_method_5_code 5 = .ok (.iload_n 1, 1) := by decide +kernel
theorem d_Ins_lead_6 : decode prog_6_method_5_code 6 = .ok (.ifCond .le 25, 3) := by decide +kernel
theorem d_Ins_lead_9 : decode prog_6_method_5_code 9 = .ok (.iload_n 1, 1) := by decide +kernel
theorem d_Ins_lead_10 : decode prog_6_method_5_code 10 = .ok (.sipush 2048, 3) := by decide +kernel
theorem d_Ins_lead_13 : decode prog_6_method_5_code 13 = .ok (.if_icmp .ge 18, 3) := by decide +kernel
theorem d_Ins_lead_16 : decode prog_6_method_5_code 16 = .ok (.aload_n 0, 1) := by decide +kernel
theorem d_Ins_lead_17 : decode prog_6_method_5_code 17 = .ok (.getfield 15, 3) := by decide +kernel
theorem d_Ins_lead_20 : decode prog_6_method_5_code 20 = .ok (.iload_n 1, 1) := by decide +kernel
theorem d_Ins_lead_21 : decode prog_6_method_5_code 21 = .ok (.invokevirtual 53, 3) := by decide +kernel
theorem d_Ins_lead_24 : decode prog_6_method_5_code 24 = .ok (.ifCond .eq 7, 3) := by decide +kernel
theorem d_Ins_lead_27 : decode prog_6_method_5_code 27 = .ok (.iconst 1, 1) := by decide +kernel
theorem d_Ins_lead_28 : decode prog_6_method_5_code 28 = .ok (.goto 4, 3) := by decide +kernel
theorem d_Ins_lead_31 : decode prog_6_method_5_code 31 = .ok (.iconst 0, 1) := by decide +kernel
theorem d_Ins_lead_32 : decode prog_6_method_5_code 32 = .ok (.invokevirtual 92, 3) := by decide +kernel
theorem d_Ins_lead_35 : decode prog_6_method_5_code 35 = .ok (.aload_n 0, 1) := by decide +kernel
theorem d_Ins_lead_36 : decode prog_6_method_5_code 36 = .ok (.getfield 31, 3) := by decide +kernel
theorem d_Ins_lead_39 : decode prog_6_method_5_code 39 = .ok (.iload_n 1, 1) := by decide +kernel
theorem d_Ins_lead_40 : decode prog_6_method_5_code 40 = .ok (.sipush 2047, 3) := by decide +kernel
theorem d_Ins_lead_43 : decode prog_6_method_5_code 43 = .ok (.iand, 1) := by decide +kernel
theorem d_Ins_lead_44 : decode prog_6_method_5_code 44 = .ok (.dup2, 1) := by decide +kernel
theorem d_Ins_lead_45 : decode prog_6_method_5_code 45 = .ok (.iaload, 1) := by decide +kernel
theorem d_Ins_lead_46 : decode prog_6_method_5_code 46 = .ok (.iconst 1, 1) := by decide +kernel
theorem d_Ins_lead_47 : decode prog_6_method_5_code 47 = .ok (.iadd, 1) := by decide +kernel
theorem d_Ins_lead_48 : decode prog_6_method_5_code 48 = .ok (.iastore, 1) := by decide +kernel
theorem d_Ins_lead_49 : decode prog_6_method_5_code 49 = .ok (.return_, 1) := by decide +kernel
set_option maxHeartbeats 4000000 in
set_option maxRecDepth 100000 in
theorem v_Ins_lead_32 {p : Program} {l : Launch} {e : Env} {s : State} {m : MethodId} {args : Array Value} {below : List Frame} {meth : Method} {c : Code} {D : va_G} {ad : Nat → Nat} {ca : Nat → ClassId} {A : Nat → Prop} {FU : Nat} {q : St} (X : FX p s m meth c prog_6_method_5_code 2 none "FlashFiles$Inspector" D (tyF ca) A) {y1 : Int32} {z0 : Int32} {g : St} {H : Heap} {locs : List Loc} {ls : Array Slot} (hP : va_P D cls (wF ad ca g) H) (hD : va_D A (wF ad ca g)) (hS : va_S A s.heap H locs) (hl : lv_has ls 2 [(0, .ref (ad 10)), (1, .int y1)]) (h : Ins_lead_b32 FU y1 z0 g = some q) : W p l e (rmN 2) s m args below meth c H locs 0 0 (MQ below (fxQv D (tyF ca) A (wF ad ca q)) args s 0 0 A) (F0 m 32 ls [.int z0, .ref (ad 10)]) := by
  have hx := X.1
  have hb := X.2.1
  unfold Ins_lead_b32 at h
  obtain ⟨p1, e1, h⟩ := bd_some h
  refine fx_v X (fx_runV (As := [.int z0]) X (m_Ins_expect e1 _) hP hD kv_Ins_92 ⟨Nat.le_of_ble_eq_true rfl, Nat.le_of_ble_eq_true rfl⟩ 10 rfl rfl rfl hl.1 rfl (Nat.le_of_ble_eq_true rfl) d_Ins_lead_32) hD hS (fun H locs hP hD hS => ?_)
  refine lv_aload_n hx hb d_Ins_lead_35 rfl (lv_at hl 0 rfl) ?_
  refine gF_ins_led X hP d_Ins_lead_36 ?_
  refine lv_iload_n hx hb d_Ins_lead_39 rfl (lv_at hl 1 rfl) ?_
  refine lv_sipush (v := 2047) hx hb d_Ins_lead_40 (by decide) ?_
  refine lv_iand hx hb d_Ins_lead_43 ?_
  refine lv_dup2_11 hx hb d_Ins_lead_44 rfl rfl ?_
  obtain ⟨v2, e1, h⟩ := bd_some h
  refine rF_25 X hP e1 d_Ins_lead_45 ?_
  refine lv_iconst (v := 1) hx hb d_Ins_lead_46 (by decide) ?_
  refine lv_iadd hx hb d_Ins_lead_47 ?_
  obtain ⟨g3, e1, h⟩ := bd_some h
  refine sF_25 X hP hD hS e1 d_Ins_lead_48 (fun H locs hP hD hS => ?_)
  cases h
  exact fx_vret X hP hD hS d_Ins_lead_49
set_option maxHeartbeats 4000000 in
set_option maxRecDepth 100000 in
theorem v_Ins_lead_31 {p : Program} {l : Launch} {e : Env} {s : State} {m : MethodId} {args : Array Value} {below : List Frame} {meth : Method} {c : Code} {D : va_G} {ad : Nat → Nat} {ca : Nat → ClassId} {A : Nat → Prop} {FU : Nat} {q : St} (X : FX p s m meth c prog_6_method_5_code 2 none "FlashFiles$Inspector" D (tyF ca) A) {y1 : Int32} {g : St} {H : Heap} {locs : List Loc} {ls : Array Slot} (hP : va_P D cls (wF ad ca g) H) (hD : va_D A (wF ad ca g)) (hS : va_S A s.heap H locs) (hl : lv_has ls 2 [(0, .ref (ad 10)), (1, .int y1)]) (h : Ins_lead_b31 FU y1 g = some q) : W p l e (rmN 2) s m args below meth c H locs 0 0 (MQ below (fxQv D (tyF ca) A (wF ad ca q)) args s 0 0 A) (F0 m 31 ls [.ref (ad 10)]) := by
  have hx := X.1
  have hb := X.2.1
  unfold Ins_lead_b31 at h
  refine lv_iconst (v := 0) hx hb d_Ins_lead_31 (by decide) ?_
  exact v_Ins_lead_32 X  hP hD hS (lv_sub hl [0, 1] rfl) h
set_option maxHeartbeats 4000000 in
set_option maxRecDepth 100000 in
theorem m_Ins_lead {l : Launch} {D : va_G} {ad : Nat → Nat} {ca : Nat → ClassId} {FU : Nat} {x1 : Int32} {g : St} {q : St} (h : Ins_lead FU x1 g = some q) : CV l ⟨"FlashFiles$Inspector", "lead", "(I)V"⟩ prog_6_method_5_code 2 2 D (tyF ca) (wF ad ca g) [.ref (ad 10), .int x1] (wF ad ca q) := by
  intro sz
  refine Met.fx (Qc := fun A => fxQv D (tyF ca) A (wF ad ca q)) (by decide) (Nat.le_of_ble_eq_true rfl) ?_
  intro p e s m below meth c A ls X hP hD hl
  have hl : lv_has ls 2 [(0, .ref (ad 10)), (1, .int x1)] := hl
  have hS : va_S A s.heap s.heap [] := va_S.rf
  have hx := X.1
  have hb := X.2.1
  unfold Ins_lead at h
  refine lv_iload_n hx hb d_Ins_lead_0 rfl (lv_at hl 1 rfl) ?_
  refine lv_if_eq (tgt := 49) hx hb d_Ins_lead_1 (by decide) (fun hc => ?_) (fun hc => ?_)
  · have h := if_t hc h
    cases h
    exact fx_vret X hP hD hS d_Ins_lead_49
  · have h := if_f hc h
    refine lv_aload_n hx hb d_Ins_lead_4 rfl (lv_at hl 0 rfl) ?_
    refine lv_iload_n hx hb d_Ins_lead_5 rfl (lv_at hl 1 rfl) ?_
    refine lv_if_le (tgt := 31) hx hb d_Ins_lead_6 (by decide) (fun hc => ?_) (fun hc => ?_)
    · have h := if_t hc h
      exact v_Ins_lead_31 X  hP hD hS (lv_sub hl [0, 1] rfl) h
    · have h := if_f hc h
      refine lv_iload_n hx hb d_Ins_lead_9 rfl (lv_at hl 1 rfl) ?_
      refine lv_sipush (v := 2048) hx hb d_Ins_lead_10 (by decide) ?_
      refine lv_icmp_ge (tgt := 31) hx hb d_Ins_lead_13 (by decide) (fun hc => ?_) (fun hc => ?_)
      · have h := if_t hc h
        exact v_Ins_lead_31 X  hP hD hS (lv_sub hl [0, 1] rfl) h
      · have h := if_f hc h
        refine lv_aload_n hx hb d_Ins_lead_16 rfl (lv_at hl 0 rfl) ?_
        refine gF_ins_table X hP d_Ins_lead_17 ?_
        refine lv_iload_n hx hb d_Ins_lead_20 rfl (lv_at hl 1 rfl) ?_
        obtain ⟨v4, e1, h⟩ := bd_some h
        refine fx_i X (fx_runV (As := [.int x1]) X (m_Tab_placeOf e1 _) hP hD kv_Ins_53 ⟨Nat.le_of_ble_eq_true rfl, Nat.le_of_ble_eq_true rfl⟩ 4 rfl rfl rfl hl.1 rfl (Nat.le_of_ble_eq_true rfl) d_Ins_lead_21) hD hS (fun H locs hP hD hS => ?_)
        refine lv_if_eq (tgt := 31) hx hb d_Ins_lead_24 (by decide) (fun hc => ?_) (fun hc => ?_)
        · have h := if_t hc h
          exact v_Ins_lead_31 X  hP hD hS (lv_sub hl [0, 1] rfl) h
        · have h := if_f hc h
          refine lv_iconst (v := 1) hx hb d_Ins_lead_27 (by decide) ?_
          refine lv_goto (tgt := 32) hx hb d_Ins_lead_28 (by decide) ?_
          exact v_Ins_lead_32 X  hP hD hS (lv_sub hl [0, 1] rfl) h
theorem d_Ins_inspectDirectory_0 : decode prog_6_method_8_code 0 = .ok (.iconst 0, 1) := by decide +kernel
theorem d_Ins_inspectDirectory_1 : decode prog_6_method_8_code 1 = .ok (.istore_n 3, 1) := by decide +kernel
theorem d_Ins_inspectDirectory_2 : decode prog_6_method_8_code 2 = .ok (.iconst 0, 1) := by decide +kernel
theorem d_Ins_inspectDirectory_3 : decode prog_6_method_8_code 3 = .ok (.istore 4, 2) := by decide +kernel
theorem d_Ins_inspectDirectory_5 : decode prog_6_method_8_code 5 = .ok (.iload 4, 2) := by decide +kernel
theorem d_Ins_inspectDirectory_7 : decode prog_6_method_8_code 7 = .ok (.bipush 48, 2) := by decide +kernel
theorem d_Ins_inspectDirectory_9 : decode prog_6_method_8_code 9 = .ok (.if_icmp .ge 159, 3) := by decide +kernel
theorem d_Ins_inspectDirectory_12 : decode prog_6_method_8_code 12 = .ok (.aload_n 0, 1) := by decide +kernel
theorem d_Ins_inspectDirectory_13 : decode prog_6_method_8_code 13 = .ok (.getfield 9, 3) := by decide +kernel
theorem d_Ins_inspectDirectory_16 : decode prog_6_method_8_code 16 = .ok (.iload_n 2, 1) := by decide +kernel
theorem d_Ins_inspectDirectory_17 : decode prog_6_method_8_code 17 = .ok (.bipush 6, 2) := by decide +kernel
theorem d_Ins_inspectDirectory_19 : decode prog_6_method_8_code 19 = .ok (.iload 4, 2) := by decide +kernel
theorem d_Ins_inspectDirectory_21 : decode prog_6_method_8_code 21 = .ok (.iadd, 1) := by decide +kernel
theorem d_Ins_inspectDirectory_22 : decode prog_6_method_8_code 22 = .ok (.invokevirtual 103, 3) := by decide +kernel
theorem d_Ins_inspectDirectory_25 : decode prog_6_method_8_code 25 = .ok (.istore 5, 2) := by decide +kernel
theorem d_Ins_inspectDirectory_27 : decode prog_6_method_8_code 27 = .ok (.iload 5, 2) := by decide +kernel
theorem d_Ins_inspectDirectory_29 : decode prog_6_method_8_code 29 = .ok (.ifCond .eq 133, 3) := by decide +kernel
theorem d_Ins_inspectDirectory_32 : decode prog_6_method_8_code 32 = .ok (.iinc 3 1, 3) := by decide +kernel
theorem d_Ins_inspectDirectory_35 : decode prog_6_method_8_code 35 = .ok (.aload_n 0, 1) := by decide +kernel
theorem d_Ins_inspectDirectory_36 : decode prog_6_method_8_code 36 = .ok (.getfield 9, 3) := by decide +kernel
theorem d_Ins_inspectDirectory_39 : decode prog_6_method_8_code 39 = .ok (.iload 5, 2) := by decide +kernel
theorem d_Ins_inspectDirectory_41 : decode prog_6_method_8_code 41 = .ok (.sipush 4095, 3) := by decide +kernel
theorem d_Ins_inspectDirectory_44 : decode prog_6_method_8_code 44 = .ok (.iand, 1) := by decide +kernel
theorem d_Ins_inspectDirectory_45 : decode prog_6_method_8_code 45 = .ok (.aload_n 0, 1) := by decide +kernel
theorem d_Ins_inspectDirectory_46 : decode prog_6_method_8_code 46 = .ok (.getfield 34, 3) := by decide +kernel
theorem d_Ins_inspectDirectory_49 : decode prog_6_method_8_code 49 = .ok (.invokevirtual 127, 3) := by decide +kernel
theorem d_Ins_inspectDirectory_52 : decode prog_6_method_8_code 52 = .ok (.aload_n 0, 1) := by decide +kernel
theorem d_Ins_inspectDirectory_53 : decode prog_6_method_8_code 53 = .ok (.getfield 34, 3) := by decide +kernel
theorem d_Ins_inspectDirectory_56 : decode prog_6_method_8_code 56 = .ok (.iconst 0, 1) := by decide +kernel
theorem d_Ins_inspectDirectory_57 : decode prog_6_method_8_code 57 = .ok (.iaload, 1) := by decide +kernel
theorem d_Ins_inspectDirectory_58 : decode prog_6_method_8_code 58 = .ok (.istore 6, 2) := by decide +kernel
theorem d_Ins_inspectDirectory_60 : decode prog_6_method_8_code 60 = .ok (.aload_n 0, 1) := by decide +kernel
theorem d_Ins_inspectDirectory_61 : decode prog_6_method_8_code 61 = .ok (.getfield 15, 3) := by decide +kernel
theorem d_Ins_inspectDirectory_64 : decode prog_6_method_8_code 64 = .ok (.iload 6, 2) := by decide +kernel
theorem d_Ins_inspectDirectory_66 : decode prog_6_method_8_code 66 = .ok (.invokevirtual 53, 3) := by decide +kernel
theorem d_Ins_inspectDirectory_69 : decode prog_6_method_8_code 69 = .ok (.istore 7, 2) := by decide +kernel
theorem d_Ins_inspectDirectory_71 : decode prog_6_method_8_code 71 = .ok (.aload_n 0, 1) := by decide +kernel
theorem d_Ins_inspectDirectory_72 : decode prog_6_method_8_code 72 = .ok (.iload 6, 2) := by decide +kernel
theorem d_Ins_inspectDirectory_74 : decode prog_6_method_8_code 74 = .ok (.invokevirtual 124, 3) := by decide +kernel
theorem d_Ins_inspectDirectory_77 : decode prog_6_method_8_code 77 = .ok (.aload_n 0, 1) := by decide +kernel
theorem d_Ins_inspectDirectory_78 : decode prog_6_method_8_code 78 = .ok (.iload 6, 2) := by decide +kernel
theorem d_Ins_inspectDirectory_80 : decode prog_6_method_8_code 80 = .ok (.iconst 1, 1) := by decide +kernel
theorem d_Ins_inspectDirectory_81 : decode prog_6_method_8_code 81 = .ok (.if_icmp .le 15, 3) := by decide +kernel
theorem d_Ins_inspectDirectory_84 : decode prog_6_method_8_code 84 = .ok (.iload 6, 2) := by decide +kernel
theorem d_Ins_inspectDirectory_86 : decode prog_6_method_8_code 86 = .ok (.sipush 250, 3) := by decide +kernel
theorem d_Ins_inspectDirectory_89 : decode prog_6_method_8_code 89 = .ok (.if_icmp .gt 7, 3) := by decide +kernel
theorem d_Ins_inspectDirectory_92 : decode prog_6_method_8_code 92 = .ok (.iconst 1, 1) := by decide +kernel
theorem d_Ins_inspectDirectory_93 : decode prog_6_method_8_code 93 = .ok (.goto 4, 3) := by decide +kernel
theorem d_Ins_inspectDirectory_96 : decode prog_6_method_8_code 96 = .ok (.iconst 0, 1) := by decide +kernel
theorem d_Ins_inspectDirectory_97 : decode prog_6_method_8_code 97 = .ok (.invokevirtual 92, 3) := by decide +kernel
theorem d_Ins_inspectDirectory_100 : decode prog_6_method_8_code 100 = .ok (.aload_n 0, 1) := by decide +kernel
theorem d_Ins_inspectDirectory_101 : decode prog_6_method_8_code 101 = .ok (.aload_n 0, 1) := by decide +kernel
theorem d_Ins_inspectDirectory_102 : decode prog_6_method_8_code 102 = .ok (.getfield 34, 3) := by decide +kernel
theorem d_Ins_inspectDirectory_105 : decode prog_6_method_8_code 105 = .ok (.iconst 2, 1) := by decide +kernel
theorem d_Ins_inspectDirectory_106 : decode prog_6_method_8_code 106 = .ok (.invokestatic 131, 3) := by decide +kernel
theorem d_Ins_inspectDirectory_109 : decode prog_6_method_8_code 109 = .ok (.iload 5, 2) := by decide +kernel
theorem d_Ins_inspectDirectory_111 : decode prog_6_method_8_code 111 = .ok (.bipush 12, 2) := by decide +kernel
theorem d_Ins_inspectDirectory_113 : decode prog_6_method_8_code 113 = .ok (.iushr, 1) := by decide +kernel
theorem d_Ins_inspectDirectory_114 : decode prog_6_method_8_code 114 = .ok (.if_icmp .ne 7, 3) := by decide +kernel
theorem d_Ins_inspectDirectory_117 : decode prog_6_method_8_code 117 = .ok (.iconst 1, 1) := by decide +kernel
theorem d_Ins_inspectDirectory_118 : decode prog_6_method_8_code 118 = .ok (.goto 4, 3) := by decide +kernel
theorem d_Ins_inspectDirectory_121 : decode prog_6_method_8_code 121 = .ok (.iconst 0, 1) := by decide +kernel
theorem d_Ins_inspectDirectory_122 : decode prog_6_method_8_code 122 = .ok (.invokevirtual 92, 3) := by decide +kernel
theorem d_Ins_inspectDirectory_125 : decode prog_6_method_8_code 125 = .ok (.aload_n 0, 1) := by decide +kernel
theorem d_Ins_inspectDirectory_126 : decode prog_6_method_8_code 126 = .ok (.aload_n 0, 1) := by decide +kernel
theorem d_Ins_inspectDirectory_127 : decode prog_6_method_8_code 127 = .ok (.getfield 9, 3) := by decide +kernel
theorem d_Ins_inspectDirectory_130 : decode prog_6_method_8_code 130 = .ok (.iload 7, 2) := by decide +kernel
theorem d_Ins_inspectDirectory_132 : decode prog_6_method_8_code 132 = .ok (.iconst 0, 1) := by decide +kernel
theorem d_Ins_inspectDirectory_133 : decode prog_6_method_8_code 133 = .ok (.invokevirtual 103, 3) := by decide +kernel
theorem d_Ins_inspectDirectory_136 : decode prog_6_method_8_code 136 = .ok (.iconst 2, 1) := by decide +kernel
theorem d_Ins_inspectDirectory_137 : decode prog_6_method_8_code 137 = .ok (.if_icmp .ne 17, 3) := by decide +kernel
theorem d_Ins_inspectDirectory_140 : decode prog_6_method_8_code 140 = .ok (.aload_n 0, 1) := by decide +kernel
theorem d_Ins_inspectDirectory_141 : decode prog_6_method_8_code 141 = .ok (.getfield 9, 3) := by decide +kernel
theorem d_Ins_inspectDirectory_144 : decode prog_6_method_8_code 144 = .ok (.iload 7, 2) := by decide +kernel
theorem d_Ins_inspectDirectory_146 : decode prog_6_method_8_code 146 = .ok (.iconst 2, 1) := by decide +kernel
theorem d_Ins_inspectDirectory_147 : decode prog_6_method_8_code 147 = .ok (.invokevirtual 103, 3) := by decide +kernel
theorem d_Ins_inspectDirectory_150 : decode prog_6_method_8_code 150 = .ok (.iload_n 1, 1) := by decide +kernel
theorem d_Ins_inspectDirectory_151 : decode prog_6_method_8_code 151 = .ok (.if_icmp .ne 7, 3) := by decide +kernel
theorem d_Ins_inspectDirectory_154 : decode prog_6_method_8_code 154 = .ok (.iconst 1, 1) := by decide +kernel
theorem d_Ins_inspectDirectory_155 : decode prog_6_method_8_code 155 = .ok (.goto 4, 3) := by decide +kernel
theorem d_Ins_inspectDirectory_158 : decode prog_6_method_8_code 158 = .ok (.iconst 0, 1) := by decide +kernel
theorem d_Ins_inspectDirectory_159 : decode prog_6_method_8_code 159 = .ok (.invokevirtual 92, 3) := by decide +kernel
theorem d_Ins_inspectDirectory_162 : decode prog_6_method_8_code 162 = .ok (.iinc 4 1, 3) := by decide +kernel
theorem d_Ins_inspectDirectory_165 : decode prog_6_method_8_code 165 = .ok (.goto (-160), 3) := by decide +kernel
theorem d_Ins_inspectDirectory_168 : decode prog_6_method_8_code 168 = .ok (.aload_n 0, 1) := by decide +kernel
theorem d_Ins_inspectDirectory_169 : decode prog_6_method_8_code 169 = .ok (.aload_n 0, 1) := by decide +kernel
theorem d_Ins_inspectDirectory_170 : decode prog_6_method_8_code 170 = .ok (.getfield 9, 3) := by decide +kernel
theorem d_Ins_inspectDirectory_173 : decode prog_6_method_8_code 173 = .ok (.iload_n 2, 1) := by decide +kernel
theorem d_Ins_inspectDirectory_174 : decode prog_6_method_8_code 174 = .ok (.iconst 1, 1) := by decide +kernel
theorem d_Ins_inspectDirectory_175 : decode prog_6_method_8_code 175 = .ok (.invokevirtual 103, 3) := by decide +kernel
theorem d_Ins_inspectDirectory_178 : decode prog_6_method_8_code 178 = .ok (.iload_n 3, 1) := by decide +kernel
theorem d_Ins_inspectDirectory_179 : decode prog_6_method_8_code 179 = .ok (.if_icmp .ne 7, 3) := by decide +kernel
theorem d_Ins_inspectDirectory_182 : decode prog_6_method_8_code 182 = .ok (.iconst 1, 1) := by decide +kernel
theorem d_Ins_inspectDirectory_183 : decode prog_6_method_8_code 183 = .ok (.goto 4, 3) := by decide +kernel
theorem d_Ins_inspectDirectory_186 : decode prog_6_method_8_code 186 = .ok (.iconst 0, 1) := by decide +kernel
theorem d_Ins_inspectDirectory_187 : decode prog_6_method_8_code 187 = .ok (.invokevirtual 92, 3) := by decide +kernel
theorem d_Ins_inspectDirectory_190 : decode prog_6_method_8_code 190 = .ok (.return_, 1) := by decide +kernel
set_option maxHeartbeats 4000000 in
set_option maxRecDepth 100000 in
theorem v_Ins_inspectDirectory_187 {p : Program} {l : Launch} {e : Env} {s : State} {m : MethodId} {args : Array Value} {below : List Frame} {meth : Method} {c : Code} {D : va_G} {ad : Nat → Nat} {ca : Nat → ClassId} {A : Nat → Prop} {FU : Nat} {q : St} (X : FX p s m meth c prog_6_method_8_code 8 none "FlashFiles$Inspector" D (tyF ca) A) {z0 : Int32} {g : St} {H : Heap} {locs : List Loc} {ls : Array Slot} (hP : va_P D cls (wF ad ca g) H) (hD : va_D A (wF ad ca g)) (hS : va_S A s.heap H locs) (hl : lv_has ls 8 []) (h : Ins_inspectDirectory_b187 FU z0 g = some q) : W p l e (rmN 3) s m args below meth c H locs 0 0 (MQ below (fxQv D (tyF ca) A (wF ad ca q)) args s 0 0 A) (F0 m 187 ls [.int z0, .ref (ad 10)]) := by
  have hx := X.1
  have hb := X.2.1
  unfold Ins_inspectDirectory_b187 at h
  obtain ⟨p1, e1, h⟩ := bd_some h
  refine fx_v X (fx_runV (As := [.int z0]) X (m_Ins_expect e1 _) hP hD kv_Ins_92 ⟨Nat.le_of_ble_eq_true rfl, Nat.le_of_ble_eq_true rfl⟩ 10 rfl rfl rfl hl.1 rfl (Nat.le_of_ble_eq_true rfl) d_Ins_inspectDirectory_187) hD hS (fun H locs hP hD hS => ?_)
  cases h
  exact fx_vret X hP hD hS d_Ins_inspectDirectory_190
set_option maxHeartbeats 4000000 in
set_option maxRecDepth 100000 in
theorem v_Ins_inspectDirectory_162 {p : Program} {l : Launch} {e : Env} {s : State} {m : MethodId} {args : Array Value} {below : List Frame} {meth : Method} {c : Code} {D : va_G} {ad : Nat → Nat} {ca : Nat → ClassId} {A : Nat → Prop} {FU : Nat} {q : St} (X : FX p s m meth c prog_6_method_8_code 8 none "FlashFiles$Inspector" D (tyF ca) A) {k5 : Int32 → Int32 → Int32 → Int32 → St → Option (St)} (hk5 : ∀ (y1 y2 y3 y4 : Int32) (g : St) (H : Heap) (locs : List Loc) (ls : Array Slot), va_P D cls (wF ad ca g) H → va_D A (wF ad ca g) → va_S A s.heap H locs → lv_has ls 8 [(0, .ref (ad 10)), (1, .int y1), (2, .int y2), (3, .int y3), (4, .int y4)] → k5 y1 y2 y3 y4 g = some q → W p l e (rmN 3) s m args below meth c H locs 0 0 (MQ below (fxQv D (tyF ca) A (wF ad ca q)) args s 0 0 A) (F0 m 5 ls [])) {y1 : Int32} {y2 : Int32} {y3 : Int32} {y4 : Int32} {g : St} {H : Heap} {locs : List Loc} {ls : Array Slot} (hP : va_P D cls (wF ad ca g) H) (hD : va_D A (wF ad ca g)) (hS : va_S A s.heap H locs) (hl : lv_has ls 8 [(0, .ref (ad 10)), (1, .int y1), (2, .int y2), (3, .int y3), (4, .int y4)]) (h : Ins_inspectDirectory_b162 FU k5 y1 y2 y3 y4 g = some q) : W p l e (rmN 3) s m args below meth c H locs 0 0 (MQ below (fxQv D (tyF ca) A (wF ad ca q)) args s 0 0 A) (F0 m 162 ls []) := by
  have hx := X.1
  have hb := X.2.1
  unfold Ins_inspectDirectory_b162 at h
  refine lv_iinc (k := 4) (v := (y4 + (1 : Int32))) hx hb d_Ins_inspectDirectory_162 hl rfl (oi_1 _) (by decide) rfl (fun ls hl => ?_)
  have hl : lv_has ls 8 [(4, .int (y4 + (1 : Int32))), (0, .ref (ad 10)), (1, .int y1), (2, .int y2), (3, .int y3)] := hl
  refine lv_goto (tgt := 5) hx hb d_Ins_inspectDirectory_165 (by decide) ?_
  exact hk5 _ _ _ _ _ _ _ _ hP hD hS (lv_sub hl [1, 2, 3, 4, 0] rfl) h
set_option maxHeartbeats 4000000 in
set_option maxRecDepth 100000 in
theorem v_Ins_inspectDirectory_159 {p : Program} {l : Launch} {e : Env} {s : State} {m : MethodId} {args : Array Value} {below : List Frame} {meth : Method} {c : Code} {D : va_G} {ad : Nat → Nat} {ca : Nat → ClassId} {A : Nat → Prop} {FU : Nat} {q : St} (X : FX p s m meth c prog_6_method_8_code 8 none "FlashFiles$Inspector" D (tyF ca) A) {k5 : Int32 → Int32 → Int32 → Int32 → St → Option (St)} (hk5 : ∀ (y1 y2 y3 y4 : Int32) (g : St) (H : Heap) (locs : List Loc) (ls : Array Slot), va_P D cls (wF ad ca g) H → va_D A (wF ad ca g) → va_S A s.heap H locs → lv_has ls 8 [(0, .ref (ad 10)), (1, .int y1), (2, .int y2), (3, .int y3), (4, .int y4)] → k5 y1 y2 y3 y4 g = some q → W p l e (rmN 3) s m args below meth c H locs 0 0 (MQ below (fxQv D (tyF ca) A (wF ad ca q)) args s 0 0 A) (F0 m 5 ls [])) {y1 : Int32} {y2 : Int32} {y3 : Int32} {y4 : Int32} {z0 : Int32} {g : St} {H : Heap} {locs : List Loc} {ls : Array Slot} (hP : va_P D cls (wF ad ca g) H) (hD : va_D A (wF ad ca g)) (hS : va_S A s.heap H locs) (hl : lv_has ls 8 [(0, .ref (ad 10)), (1, .int y1), (2, .int y2), (3, .int y3), (4, .int y4)]) (h : Ins_inspectDirectory_b159 FU k5 y1 y2 y3 y4 z0 g = some q) : W p l e (rmN 3) s m args below meth c H locs 0 0 (MQ below (fxQv D (tyF ca) A (wF ad ca q)) args s 0 0 A) (F0 m 159 ls [.int z0, .ref (ad 10)]) := by
  have hx := X.1
  have hb := X.2.1
  unfold Ins_inspectDirectory_b159 at h
  obtain ⟨p2, e1, h⟩ := bd_some h
  refine fx_v X (fx_runV (As := [.int z0]) X (m_Ins_expect e1 _) hP hD kv_Ins_92 ⟨Nat.le_of_ble_eq_true rfl, Nat.le_of_ble_eq_true rfl⟩ 10 rfl rfl rfl hl.1 rfl (Nat.le_of_ble_eq_true rfl) d_Ins_inspectDirectory_159) hD hS (fun H locs hP hD hS => ?_)
  exact v_Ins_inspectDirectory_162 X hk5 hP hD hS (lv_sub hl [0, 1, 2, 3, 4] rfl) h
set_option maxHeartbeats 4000000 in
set_option maxRecDepth 100000 in
theorem v_Ins_inspectDirectory_154 {p : Program} {l : Launch} {e : Env} {s : State} {m : MethodId} {args : Array Value} {below : List Frame} {meth : Method} {c : Code} {D : va_G} {ad : Nat → Nat} {ca : Nat → ClassId} {A : Nat → Prop} {FU : Nat} {q : St} (X : FX p s m meth c prog_6_method_8_code 8 none "FlashFiles$Inspector" D (tyF ca) A) {k5 : Int32 → Int32 → Int32 → Int32 → St → Option (St)} (hk5 : ∀ (y1 y2 y3 y4 : Int32) (g : St) (H : Heap) (locs : List Loc) (ls : Array Slot), va_P D cls (wF ad ca g) H → va_D A (wF ad ca g) → va_S A s.heap H locs → lv_has ls 8 [(0, .ref (ad 10)), (1, .int y1), (2, .int y2), (3, .int y3), (4, .int y4)] → k5 y1 y2 y3 y4 g = some q → W p l e (rmN 3) s m args below meth c H locs 0 0 (MQ below (fxQv D (tyF ca) A (wF ad ca q)) args s 0 0 A) (F0 m 5 ls [])) {y1 : Int32} {y2 : Int32} {y3 : Int32} {y4 : Int32} {g : St} {H : Heap} {locs : List Loc} {ls : Array Slot} (hP : va_P D cls (wF ad ca g) H) (hD : va_D A (wF ad ca g)) (hS : va_S A s.heap H locs) (hl : lv_has ls 8 [(0, .ref (ad 10)), (1, .int y1), (2, .int y2), (3, .int y3), (4, .int y4)]) (h : Ins_inspectDirectory_b154 FU k5 y1 y2 y3 y4 g = some q) : W p l e (rmN 3) s m args below meth c H locs 0 0 (MQ below (fxQv D (tyF ca) A (wF ad ca q)) args s 0 0 A) (F0 m 154 ls [.ref (ad 10)]) := by
  have hx := X.1
  have hb := X.2.1
  unfold Ins_inspectDirectory_b154 at h
  refine lv_iconst (v := 1) hx hb d_Ins_inspectDirectory_154 (by decide) ?_
  refine lv_goto (tgt := 159) hx hb d_Ins_inspectDirectory_155 (by decide) ?_
  exact v_Ins_inspectDirectory_159 X hk5 hP hD hS (lv_sub hl [0, 1, 2, 3, 4] rfl) h
set_option maxHeartbeats 4000000 in
set_option maxRecDepth 100000 in
theorem v_Ins_inspectDirectory_122 {p : Program} {l : Launch} {e : Env} {s : State} {m : MethodId} {args : Array Value} {below : List Frame} {meth : Method} {c : Code} {D : va_G} {ad : Nat → Nat} {ca : Nat → ClassId} {A : Nat → Prop} {FU : Nat} {q : St} (X : FX p s m meth c prog_6_method_8_code 8 none "FlashFiles$Inspector" D (tyF ca) A) {k5 : Int32 → Int32 → Int32 → Int32 → St → Option (St)} (hk5 : ∀ (y1 y2 y3 y4 : Int32) (g : St) (H : Heap) (locs : List Loc) (ls : Array Slot), va_P D cls (wF ad ca g) H → va_D A (wF ad ca g) → va_S A s.heap H locs → lv_has ls 8 [(0, .ref (ad 10)), (1, .int y1), (2, .int y2), (3, .int y3), (4, .int y4)] → k5 y1 y2 y3 y4 g = some q → W p l e (rmN 3) s m args below meth c H locs 0 0 (MQ below (fxQv D (tyF ca) A (wF ad ca q)) args s 0 0 A) (F0 m 5 ls [])) {y1 : Int32} {y2 : Int32} {y3 : Int32} {y4 : Int32} {y7 : Int32} {z0 : Int32} {g : St} {H : Heap} {locs : List Loc} {ls : Array Slot} (hP : va_P D cls (wF ad ca g) H) (hD : va_D A (wF ad ca g)) (hS : va_S A s.heap H locs) (hl : lv_has ls 8 [(0, .ref (ad 10)), (1, .int y1), (2, .int y2), (3, .int y3), (4, .int y4), (7, .int y7)]) (h : Ins_inspectDirectory_b122 FU k5 y1 y2 y3 y4 y7 z0 g = some q) : W p l e (rmN 3) s m args below meth c H locs 0 0 (MQ below (fxQv D (tyF ca) A (wF ad ca q)) args s 0 0 A) (F0 m 122 ls [.int z0, .ref (ad 10)]) := by
  have hx := X.1
  have hb := X.2.1
  unfold Ins_inspectDirectory_b122 at h
  obtain ⟨p3, e1, h⟩ := bd_some h
  refine fx_v X (fx_runV (As := [.int z0]) X (m_Ins_expect e1 _) hP hD kv_Ins_92 ⟨Nat.le_of_ble_eq_true rfl, Nat.le_of_ble_eq_true rfl⟩ 10 rfl rfl rfl hl.1 rfl (Nat.le_of_ble_eq_true rfl) d_Ins_inspectDirectory_122) hD hS (fun H locs hP hD hS => ?_)
  refine lv_aload_n hx hb d_Ins_inspectDirectory_125 rfl (lv_at hl 0 rfl) ?_
  refine lv_aload_n hx hb d_Ins_inspectDirectory_126 rfl (lv_at hl 0 rfl) ?_
  refine gF_ins_device X hP d_Ins_inspectDirectory_127 ?_
  refine lv_iload hx hb d_Ins_inspectDirectory_130 (lv_at hl 5 rfl) ?_
  refine lv_iconst (v := 0) hx hb d_Ins_inspectDirectory_132 (by decide) ?_
  obtain ⟨v4, e1, h⟩ := bd_some h
  refine fx_i X (fx_runV (As := [.int y7, .int (0 : Int32)]) X (m_Dev_word e1 _) hP hD kv_Ins_103 ⟨Nat.le_of_ble_eq_true rfl, Nat.le_of_ble_eq_true rfl⟩ 3 rfl rfl rfl hl.1 rfl (Nat.le_of_ble_eq_true rfl) d_Ins_inspectDirectory_133) hD hS (fun H locs hP hD hS => ?_)
  refine lv_iconst (v := 2) hx hb d_Ins_inspectDirectory_136 (by decide) ?_
  refine lv_icmp_ne (tgt := 154) hx hb d_Ins_inspectDirectory_137 (by decide) (fun hc => ?_) (fun hc => ?_)
  · have h := if_f hc h
    exact v_Ins_inspectDirectory_154 X hk5 hP hD hS (lv_sub hl [0, 1, 2, 3, 4] rfl) h
  · have h := if_t hc h
    refine lv_aload_n hx hb d_Ins_inspectDirectory_140 rfl (lv_at hl 0 rfl) ?_
    refine gF_ins_device X hP d_Ins_inspectDirectory_141 ?_
    refine lv_iload hx hb d_Ins_inspectDirectory_144 (lv_at hl 5 rfl) ?_
    refine lv_iconst (v := 2) hx hb d_Ins_inspectDirectory_146 (by decide) ?_
    obtain ⟨v5, e1, h⟩ := bd_some h
    refine fx_i X (fx_runV (As := [.int y7, .int (2 : Int32)]) X (m_Dev_word e1 _) hP hD kv_Ins_103 ⟨Nat.le_of_ble_eq_true rfl, Nat.le_of_ble_eq_true rfl⟩ 3 rfl rfl rfl hl.1 rfl (Nat.le_of_ble_eq_true rfl) d_Ins_inspectDirectory_147) hD hS (fun H locs hP hD hS => ?_)
    refine lv_iload_n hx hb d_Ins_inspectDirectory_150 rfl (lv_at hl 1 rfl) ?_
    refine lv_icmp_ne (tgt := 158) hx hb d_Ins_inspectDirectory_151 (by decide) (fun hc => ?_) (fun hc => ?_)
    · have h := if_f hc h
      refine lv_iconst (v := 0) hx hb d_Ins_inspectDirectory_158 (by decide) ?_
      exact v_Ins_inspectDirectory_159 X hk5 hP hD hS (lv_sub hl [0, 1, 2, 3, 4] rfl) h
    · have h := if_t hc h
      exact v_Ins_inspectDirectory_154 X hk5 hP hD hS (lv_sub hl [0, 1, 2, 3, 4] rfl) h
set_option maxHeartbeats 4000000 in
set_option maxRecDepth 100000 in
theorem v_Ins_inspectDirectory_97 {p : Program} {l : Launch} {e : Env} {s : State} {m : MethodId} {args : Array Value} {below : List Frame} {meth : Method} {c : Code} {D : va_G} {ad : Nat → Nat} {ca : Nat → ClassId} {A : Nat → Prop} {FU : Nat} {q : St} (X : FX p s m meth c prog_6_method_8_code 8 none "FlashFiles$Inspector" D (tyF ca) A) {k5 : Int32 → Int32 → Int32 → Int32 → St → Option (St)} (hk5 : ∀ (y1 y2 y3 y4 : Int32) (g : St) (H : Heap) (locs : List Loc) (ls : Array Slot), va_P D cls (wF ad ca g) H → va_D A (wF ad ca g) → va_S A s.heap H locs → lv_has ls 8 [(0, .ref (ad 10)), (1, .int y1), (2, .int y2), (3, .int y3), (4, .int y4)] → k5 y1 y2 y3 y4 g = some q → W p l e (rmN 3) s m args below meth c H locs 0 0 (MQ below (fxQv D (tyF ca) A (wF ad ca q)) args s 0 0 A) (F0 m 5 ls [])) {y1 : Int32} {y2 : Int32} {y3 : Int32} {y4 : Int32} {y5 : Int32} {y7 : Int32} {z0 : Int32} {g : St} {H : Heap} {locs : List Loc} {ls : Array Slot} (hP : va_P D cls (wF ad ca g) H) (hD : va_D A (wF ad ca g)) (hS : va_S A s.heap H locs) (hl : lv_has ls 8 [(0, .ref (ad 10)), (1, .int y1), (2, .int y2), (3, .int y3), (4, .int y4), (5, .int y5), (7, .int y7)]) (h : Ins_inspectDirectory_b97 FU k5 y1 y2 y3 y4 y5 y7 z0 g = some q) : W p l e (rmN 3) s m args below meth c H locs 0 0 (MQ below (fxQv D (tyF ca) A (wF ad ca q)) args s 0 0 A) (F0 m 97 ls [.int z0, .ref (ad 10)]) := by
  have hx := X.1
  have hb := X.2.1
  unfold Ins_inspectDirectory_b97 at h
  obtain ⟨p6, e1, h⟩ := bd_some h
  refine fx_v X (fx_runV (As := [.int z0]) X (m_Ins_expect e1 _) hP hD kv_Ins_92 ⟨Nat.le_of_ble_eq_true rfl, Nat.le_of_ble_eq_true rfl⟩ 10 rfl rfl rfl hl.1 rfl (Nat.le_of_ble_eq_true rfl) d_Ins_inspectDirectory_97) hD hS (fun H locs hP hD hS => ?_)
  refine lv_aload_n hx hb d_Ins_inspectDirectory_100 rfl (lv_at hl 0 rfl) ?_
  refine lv_aload_n hx hb d_Ins_inspectDirectory_101 rfl (lv_at hl 0 rfl) ?_
  refine gF_ins_entry X hP d_Ins_inspectDirectory_102 ?_
  refine lv_iconst (v := 2) hx hb d_Ins_inspectDirectory_105 (by decide) ?_
  obtain ⟨v7, e1, h⟩ := bd_some h
  refine fx_i X (fx_runN X (m_FF_hashOf_26 e1 _) (As := [.ref (ad 37), .int (2 : Int32)]) hP hD kn_Ins_131 ⟨Nat.le_of_ble_eq_true rfl, Nat.le_of_ble_eq_true rfl⟩ rfl hl.1 rfl (Nat.le_of_ble_eq_true rfl) d_Ins_inspectDirectory_106) hD hS (fun H locs hP hD hS => ?_)
  refine lv_iload hx hb d_Ins_inspectDirectory_109 (lv_at hl 5 rfl) ?_
  refine lv_bipush (v := 12) hx hb d_Ins_inspectDirectory_111 (by decide) ?_
  refine lv_iushr (v := ush y5 (12 : Int32)) hx hb d_Ins_inspectDirectory_113 rfl ?_
  refine lv_icmp_ne (tgt := 121) hx hb d_Ins_inspectDirectory_114 (by decide) (fun hc => ?_) (fun hc => ?_)
  · have h := if_f hc h
    refine lv_iconst (v := 0) hx hb d_Ins_inspectDirectory_121 (by decide) ?_
    exact v_Ins_inspectDirectory_122 X hk5 hP hD hS (lv_sub hl [0, 1, 2, 3, 4, 6] rfl) h
  · have h := if_t hc h
    refine lv_iconst (v := 1) hx hb d_Ins_inspectDirectory_117 (by decide) ?_
    refine lv_goto (tgt := 122) hx hb d_Ins_inspectDirectory_118 (by decide) ?_
    exact v_Ins_inspectDirectory_122 X hk5 hP hD hS (lv_sub hl [0, 1, 2, 3, 4, 6] rfl) h
set_option maxHeartbeats 4000000 in
set_option maxRecDepth 100000 in
theorem v_Ins_inspectDirectory_96 {p : Program} {l : Launch} {e : Env} {s : State} {m : MethodId} {args : Array Value} {below : List Frame} {meth : Method} {c : Code} {D : va_G} {ad : Nat → Nat} {ca : Nat → ClassId} {A : Nat → Prop} {FU : Nat} {q : St} (X : FX p s m meth c prog_6_method_8_code 8 none "FlashFiles$Inspector" D (tyF ca) A) {k5 : Int32 → Int32 → Int32 → Int32 → St → Option (St)} (hk5 : ∀ (y1 y2 y3 y4 : Int32) (g : St) (H : Heap) (locs : List Loc) (ls : Array Slot), va_P D cls (wF ad ca g) H → va_D A (wF ad ca g) → va_S A s.heap H locs → lv_has ls 8 [(0, .ref (ad 10)), (1, .int y1), (2, .int y2), (3, .int y3), (4, .int y4)] → k5 y1 y2 y3 y4 g = some q → W p l e (rmN 3) s m args below meth c H locs 0 0 (MQ below (fxQv D (tyF ca) A (wF ad ca q)) args s 0 0 A) (F0 m 5 ls [])) {y1 : Int32} {y2 : Int32} {y3 : Int32} {y4 : Int32} {y5 : Int32} {y7 : Int32} {g : St} {H : Heap} {locs : List Loc} {ls : Array Slot} (hP : va_P D cls (wF ad ca g) H) (hD : va_D A (wF ad ca g)) (hS : va_S A s.heap H locs) (hl : lv_has ls 8 [(0, .ref (ad 10)), (1, .int y1), (2, .int y2), (3, .int y3), (4, .int y4), (5, .int y5), (7, .int y7)]) (h : Ins_inspectDirectory_b96 FU k5 y1 y2 y3 y4 y5 y7 g = some q) : W p l e (rmN 3) s m args below meth c H locs 0 0 (MQ below (fxQv D (tyF ca) A (wF ad ca q)) args s 0 0 A) (F0 m 96 ls [.ref (ad 10)]) := by
  have hx := X.1
  have hb := X.2.1
  unfold Ins_inspectDirectory_b96 at h
  refine lv_iconst (v := 0) hx hb d_Ins_inspectDirectory_96 (by decide) ?_
  exact v_Ins_inspectDirectory_97 X hk5 hP hD hS (lv_sub hl [0, 1, 2, 3, 4, 5, 6] rfl) h
set_option maxHeartbeats 4000000 in
set_option maxRecDepth 100000 in
theorem v_Ins_inspectDirectory_5 {p : Program} {l : Launch} {e : Env} {s : State} {m : MethodId} {args : Array Value} {below : List Frame} {meth : Method} {c : Code} {D : va_G} {ad : Nat → Nat} {ca : Nat → ClassId} {A : Nat → Prop} {FU : Nat} {q : St} (X : FX p s m meth c prog_6_method_8_code 8 none "FlashFiles$Inspector" D (tyF ca) A) : ∀ (n : Nat), ∀ (y1 y2 y3 y4 : Int32) (g : St) (H : Heap) (locs : List Loc) (ls : Array Slot), va_P D cls (wF ad ca g) H → va_D A (wF ad ca g) → va_S A s.heap H locs → lv_has ls 8 [(0, .ref (ad 10)), (1, .int y1), (2, .int y2), (3, .int y3), (4, .int y4)] → Ins_inspectDirectory_b5 FU n y1 y2 y3 y4 g = some q → W p l e (rmN 3) s m args below meth c H locs 0 0 (MQ below (fxQv D (tyF ca) A (wF ad ca q)) args s 0 0 A) (F0 m 5 ls []) := by
  have hx := X.1
  have hb := X.2.1
  intro n
  induction n with
  | zero =>
    intro y1 y2 y3 y4 g H locs ls hP hD hS hl h
    cases h
  | succ n ih =>
    intro y1 y2 y3 y4 g H locs ls hP hD hS hl h
    have h := h
    rw [Ins_inspectDirectory_b5.eq_2] at h
    refine lv_iload hx hb d_Ins_inspectDirectory_5 (lv_at hl 4 rfl) ?_
    refine lv_bipush (v := 48) hx hb d_Ins_inspectDirectory_7 (by decide) ?_
    refine lv_icmp_ge (tgt := 168) hx hb d_Ins_inspectDirectory_9 (by decide) (fun hc => ?_) (fun hc => ?_)
    · have h := if_t hc h
      refine lv_aload_n hx hb d_Ins_inspectDirectory_168 rfl (lv_at hl 0 rfl) ?_
      refine lv_aload_n hx hb d_Ins_inspectDirectory_169 rfl (lv_at hl 0 rfl) ?_
      refine gF_ins_device X hP d_Ins_inspectDirectory_170 ?_
      refine lv_iload_n hx hb d_Ins_inspectDirectory_173 rfl (lv_at hl 2 rfl) ?_
      refine lv_iconst (v := 1) hx hb d_Ins_inspectDirectory_174 (by decide) ?_
      obtain ⟨v8, e1, h⟩ := bd_some h
      refine fx_i X (fx_runV (As := [.int y2, .int (1 : Int32)]) X (m_Dev_word e1 _) hP hD kv_Ins_103 ⟨Nat.le_of_ble_eq_true rfl, Nat.le_of_ble_eq_true rfl⟩ 3 rfl rfl rfl hl.1 rfl (Nat.le_of_ble_eq_true rfl) d_Ins_inspectDirectory_175) hD hS (fun H locs hP hD hS => ?_)
      refine lv_iload_n hx hb d_Ins_inspectDirectory_178 rfl (lv_at hl 3 rfl) ?_
      refine lv_icmp_ne (tgt := 186) hx hb d_Ins_inspectDirectory_179 (by decide) (fun hc => ?_) (fun hc => ?_)
      · have h := if_f hc h
        refine lv_iconst (v := 0) hx hb d_Ins_inspectDirectory_186 (by decide) ?_
        exact v_Ins_inspectDirectory_187 X  hP hD hS (lv_sub hl [] rfl) h
      · have h := if_t hc h
        refine lv_iconst (v := 1) hx hb d_Ins_inspectDirectory_182 (by decide) ?_
        refine lv_goto (tgt := 187) hx hb d_Ins_inspectDirectory_183 (by decide) ?_
        exact v_Ins_inspectDirectory_187 X  hP hD hS (lv_sub hl [] rfl) h
    · have h := if_f hc h
      refine lv_aload_n hx hb d_Ins_inspectDirectory_12 rfl (lv_at hl 0 rfl) ?_
      refine gF_ins_device X hP d_Ins_inspectDirectory_13 ?_
      refine lv_iload_n hx hb d_Ins_inspectDirectory_16 rfl (lv_at hl 2 rfl) ?_
      refine lv_bipush (v := 6) hx hb d_Ins_inspectDirectory_17 (by decide) ?_
      refine lv_iload hx hb d_Ins_inspectDirectory_19 (lv_at hl 4 rfl) ?_
      refine lv_iadd hx hb d_Ins_inspectDirectory_21 ?_
      obtain ⟨v9, e1, h⟩ := bd_some h
      refine fx_i X (fx_runV (As := [.int y2, .int ((6 : Int32) + y4)]) X (m_Dev_word e1 _) hP hD kv_Ins_103 ⟨Nat.le_of_ble_eq_true rfl, Nat.le_of_ble_eq_true rfl⟩ 3 rfl rfl rfl hl.1 rfl (Nat.le_of_ble_eq_true rfl) d_Ins_inspectDirectory_22) hD hS (fun H locs hP hD hS => ?_)
      refine lv_istore hx hb d_Ins_inspectDirectory_25 hl (by decide) rfl (fun ls hl => ?_)
      have hl : lv_has ls 8 [(5, .int v9), (0, .ref (ad 10)), (1, .int y1), (2, .int y2), (3, .int y3), (4, .int y4)] := hl
      refine lv_iload hx hb d_Ins_inspectDirectory_27 (lv_at hl 0 rfl) ?_
      refine lv_if_eq (tgt := 162) hx hb d_Ins_inspectDirectory_29 (by decide) (fun hc => ?_) (fun hc => ?_)
      · have h := if_t hc h
        exact v_Ins_inspectDirectory_162 X ih hP hD hS (lv_sub hl [1, 2, 3, 4, 5] rfl) h
      · have h := if_f hc h
        refine lv_iinc (k := 4) (v := (y3 + (1 : Int32))) hx hb d_Ins_inspectDirectory_32 hl rfl (oi_1 _) (by decide) rfl (fun ls hl => ?_)
        have hl : lv_has ls 8 [(3, .int (y3 + (1 : Int32))), (5, .int v9), (0, .ref (ad 10)), (1, .int y1), (2, .int y2), (4, .int y4)] := hl
        refine lv_aload_n hx hb d_Ins_inspectDirectory_35 rfl (lv_at hl 2 rfl) ?_
        refine gF_ins_device X hP d_Ins_inspectDirectory_36 ?_
        refine lv_iload hx hb d_Ins_inspectDirectory_39 (lv_at hl 1 rfl) ?_
        refine lv_sipush (v := 4095) hx hb d_Ins_inspectDirectory_41 (by decide) ?_
        refine lv_iand hx hb d_Ins_inspectDirectory_44 ?_
        refine lv_aload_n hx hb d_Ins_inspectDirectory_45 rfl (lv_at hl 2 rfl) ?_
        refine gF_ins_entry X hP d_Ins_inspectDirectory_46 ?_
        obtain ⟨p10, e1, h⟩ := bd_some h
        refine fx_v X (fx_runV (As := [.int (v9 &&& (4095 : Int32)), .ref (ad 37)]) X (m_Dev_load_26 e1 _) hP hD kv_Ins_127 ⟨Nat.le_of_ble_eq_true rfl, Nat.le_of_ble_eq_true rfl⟩ 3 rfl rfl rfl hl.1 rfl (Nat.le_of_ble_eq_true rfl) d_Ins_inspectDirectory_49) hD hS (fun H locs hP hD hS => ?_)
        refine lv_aload_n hx hb d_Ins_inspectDirectory_52 rfl (lv_at hl 2 rfl) ?_
        refine gF_ins_entry X hP d_Ins_inspectDirectory_53 ?_
        refine lv_iconst (v := 0) hx hb d_Ins_inspectDirectory_56 (by decide) ?_
        obtain ⟨v11, e1, h⟩ := bd_some h
        refine rF_26 X hP e1 d_Ins_inspectDirectory_57 ?_
        refine lv_istore hx hb d_Ins_inspectDirectory_58 hl (by decide) rfl (fun ls hl => ?_)
        have hl : lv_has ls 8 [(6, .int v11), (3, .int (y3 + (1 : Int32))), (5, .int v9), (0, .ref (ad 10)), (1, .int y1), (2, .int y2), (4, .int y4)] := hl
        refine lv_aload_n hx hb d_Ins_inspectDirectory_60 rfl (lv_at hl 3 rfl) ?_
        refine gF_ins_table X hP d_Ins_inspectDirectory_61 ?_
        refine lv_iload hx hb d_Ins_inspectDirectory_64 (lv_at hl 0 rfl) ?_
        obtain ⟨v12, e1, h⟩ := bd_some h
        refine fx_i X (fx_runV (As := [.int v11]) X (m_Tab_placeOf e1 _) hP hD kv_Ins_53 ⟨Nat.le_of_ble_eq_true rfl, Nat.le_of_ble_eq_true rfl⟩ 4 rfl rfl rfl hl.1 rfl (Nat.le_of_ble_eq_true rfl) d_Ins_inspectDirectory_66) hD hS (fun H locs hP hD hS => ?_)
        refine lv_istore hx hb d_Ins_inspectDirectory_69 hl (by decide) rfl (fun ls hl => ?_)
        have hl : lv_has ls 8 [(7, .int v12), (6, .int v11), (3, .int (y3 + (1 : Int32))), (5, .int v9), (0, .ref (ad 10)), (1, .int y1), (2, .int y2), (4, .int y4)] := hl
        refine lv_aload_n hx hb d_Ins_inspectDirectory_71 rfl (lv_at hl 4 rfl) ?_
        refine lv_iload hx hb d_Ins_inspectDirectory_72 (lv_at hl 1 rfl) ?_
        obtain ⟨p13, e1, h⟩ := bd_some h
        refine fx_v X (fx_runV (As := [.int v11]) X (m_Ins_lead e1 _) hP hD kv_Ins_124 ⟨Nat.le_of_ble_eq_true rfl, Nat.le_of_ble_eq_true rfl⟩ 10 rfl rfl rfl hl.1 rfl (Nat.le_of_ble_eq_true rfl) d_Ins_inspectDirectory_74) hD hS (fun H locs hP hD hS => ?_)
        refine lv_aload_n hx hb d_Ins_inspectDirectory_77 rfl (lv_at hl 4 rfl) ?_
        refine lv_iload hx hb d_Ins_inspectDirectory_78 (lv_at hl 1 rfl) ?_
        refine lv_iconst (v := 1) hx hb d_Ins_inspectDirectory_80 (by decide) ?_
        refine lv_icmp_le (tgt := 96) hx hb d_Ins_inspectDirectory_81 (by decide) (fun hc => ?_) (fun hc => ?_)
        · have h := if_t hc h
          exact v_Ins_inspectDirectory_96 X ih hP hD hS (lv_sub hl [4, 5, 6, 2, 7, 3, 0] rfl) h
        · have h := if_f hc h
          refine lv_iload hx hb d_Ins_inspectDirectory_84 (lv_at hl 1 rfl) ?_
          refine lv_sipush (v := 250) hx hb d_Ins_inspectDirectory_86 (by decide) ?_
          refine lv_icmp_gt (tgt := 96) hx hb d_Ins_inspectDirectory_89 (by decide) (fun hc => ?_) (fun hc => ?_)
          · have h := if_t hc h
            exact v_Ins_inspectDirectory_96 X ih hP hD hS (lv_sub hl [4, 5, 6, 2, 7, 3, 0] rfl) h
          · have h := if_f hc h
            refine lv_iconst (v := 1) hx hb d_Ins_inspectDirectory_92 (by decide) ?_
            refine lv_goto (tgt := 97) hx hb d_Ins_inspectDirectory_93 (by decide) ?_
            exact v_Ins_inspectDirectory_97 X ih hP hD hS (lv_sub hl [4, 5, 6, 2, 7, 3, 0] rfl) h
set_option maxHeartbeats 4000000 in
set_option maxRecDepth 100000 in
theorem m_Ins_inspectDirectory {l : Launch} {D : va_G} {ad : Nat → Nat} {ca : Nat → ClassId} {FU : Nat} {x1 : Int32} {x2 : Int32} {g : St} {q : St} (h : Ins_inspectDirectory FU x1 x2 g = some q) : CV l ⟨"FlashFiles$Inspector", "inspectDirectory", "(II)V"⟩ prog_6_method_8_code 8 3 D (tyF ca) (wF ad ca g) [.ref (ad 10), .int x1, .int x2] (wF ad ca q) := by
  intro sz
  refine Met.fx (Qc := fun A => fxQv D (tyF ca) A (wF ad ca q)) (by decide) (Nat.le_of_ble_eq_true rfl) ?_
  intro p e s m below meth c A ls X hP hD hl
  have hl : lv_has ls 8 [(0, .ref (ad 10)), (1, .int x1), (2, .int x2)] := hl
  have hS : va_S A s.heap s.heap [] := va_S.rf
  have hx := X.1
  have hb := X.2.1
  unfold Ins_inspectDirectory at h
  refine lv_iconst (v := 0) hx hb d_Ins_inspectDirectory_0 (by decide) ?_
  refine lv_istore_n hx hb d_Ins_inspectDirectory_1 rfl hl (by decide) rfl (fun ls hl => ?_)
  have hl : lv_has ls 8 [(3, .int (0 : Int32)), (0, .ref (ad 10)), (1, .int x1), (2, .int x2)] := hl
  refine lv_iconst (v := 0) hx hb d_Ins_inspectDirectory_2 (by decide) ?_
  refine lv_istore hx hb d_Ins_inspectDirectory_3 hl (by decide) rfl (fun ls hl => ?_)
  have hl : lv_has ls 8 [(4, .int (0 : Int32)), (3, .int (0 : Int32)), (0, .ref (ad 10)), (1, .int x1), (2, .int x2)] := hl
  exact v_Ins_inspectDirectory_5 X  _ _ _ _ _ _ _ _ _ hP hD hS (lv_sub hl [2, 3, 4, 1, 0] rfl) h
theorem d_Ins_placeOfBlock_0 : decode prog_6_method_10_code 0 = .ok (.iload_n 2, 1) := by decide +kernel
theorem d_Ins_placeOfBlock_1 : decode prog_6_method_10_code 1 = .ok (.bipush 20, 2) := by decide +kernel
theorem d_Ins_placeOfBlock_3 : decode prog_6_method_10_code 3 = .ok (.if_icmp .ge 16, 3) := by decide +kernel
theorem d_Ins_placeOfBlock_6 : decode prog_6_method_10_code 6 = .ok (.aload_n 0, 1) := by decide +kernel
theorem d_Ins_placeOfBlock_7 : decode prog_6_method_10_code 7 = .ok (.getfield 9, 3) := by decide +kernel
theorem d_Ins_placeOfBlock_10 : decode prog_6_method_10_code 10 = .ok (.iload_n 1, 1) := by decide +kernel
theorem d_Ins_placeOfBlock_11 : decode prog_6_method_10_code 11 = .ok (.bipush 6, 2) := by decide +kernel
theorem d_Ins_placeOfBlock_13 : decode prog_6_method_10_code 13 = .ok (.iload_n 2, 1) := by decide +kernel
theorem d_Ins_placeOfBlock_14 : decode prog_6_method_10_code 14 = .ok (.iadd, 1) := by decide +kernel
theorem d_Ins_placeOfBlock_15 : decode prog_6_method_10_code 15 = .ok (.invokevirtual 103, 3) := by decide +kernel
theorem d_Ins_placeOfBlock_18 : decode prog_6_method_10_code 18 = .ok (.ireturn, 1) := by decide +kernel
theorem d_Ins_placeOfBlock_19 : decode prog_6_method_10_code 19 = .ok (.iload_n 2, 1) := by decide +kernel
theorem d_Ins_placeOfBlock_20 : decode prog_6_method_10_code 20 = .ok (.bipush 20, 2) := by decide +kernel
theorem d_Ins_placeOfBlock_22 : decode prog_6_method_10_code 22 = .ok (.isub, 1) := by decide +kernel
theorem d_Ins_placeOfBlock_23 : decode prog_6_method_10_code 23 = .ok (.bipush 56, 2) := by decide +kernel
theorem d_Ins_placeOfBlock_25 : decode prog_6_method_10_code 25 = .ok (.idiv, 1) := by decide +kernel
theorem d_Ins_placeOfBlock_26 : decode prog_6_method_10_code 26 = .ok (.istore_n 3, 1) := by decide +kernel
theorem d_Ins_placeOfBlock_27 : decode prog_6_method_10_code 27 = .ok (.iload_n 3, 1) := by decide +kernel
theorem d_Ins_placeOfBlock_28 : decode prog_6_method_10_code 28 = .ok (.iconst 2, 1) := by decide +kernel
theorem d_Ins_placeOfBlock_29 : decode prog_6_method_10_code 29 = .ok (.if_icmp .ge 7, 3) := by decide +kernel
theorem d_Ins_placeOfBlock_32 : decode prog_6_method_10_code 32 = .ok (.iload_n 1, 1) := by decide +kernel
theorem d_Ins_placeOfBlock_33 : decode prog_6_method_10_code 33 = .ok (.goto 20, 3) := by decide +kernel
theorem d_Ins_placeOfBlock_36 : decode prog_6_method_10_code 36 = .ok (.aload_n 0, 1) := by decide +kernel
theorem d_Ins_placeOfBlock_37 : decode prog_6_method_10_code 37 = .ok (.getfield 15, 3) := by decide +kernel
theorem d_Ins_placeOfBlock_40 : decode prog_6_method_10_code 40 = .ok (.aload_n 0, 1) := by decide +kernel
theorem d_Ins_placeOfBlock_41 : decode prog_6_method_10_code 41 = .ok (.getfield 9, 3) := by decide +kernel
theorem d_Ins_placeOfBlock_44 : decode prog_6_method_10_code 44 = .ok (.iload_n 1, 1) := by decide +kernel
theorem d_Ins_placeOfBlock_45 : decode prog_6_method_10_code 45 = .ok (.bipush 28, 2) := by decide +kernel
theorem d_Ins_placeOfBlock_47 : decode prog_6_method_10_code 47 = .ok (.invokevirtual 103, 3) := by decide +kernel
theorem d_Ins_placeOfBlock_50 : decode prog_6_method_10_code 50 = .ok (.invokevirtual 53, 3) := by decide +kernel
theorem d_Ins_placeOfBlock_53 : decode prog_6_method_10_code 53 = .ok (.istore 4, 2) := by decide +kernel
theorem d_Ins_placeOfBlock_55 : decode prog_6_method_10_code 55 = .ok (.iload 4, 2) := by decide +kernel
theorem d_Ins_placeOfBlock_57 : decode prog_6_method_10_code 57 = .ok (.ifCond .ne 7, 3) := by decide +kernel
theorem d_Ins_placeOfBlock_60 : decode prog_6_method_10_code 60 = .ok (.iconst 0, 1) := by decide +kernel
theorem d_Ins_placeOfBlock_61 : decode prog_6_method_10_code 61 = .ok (.goto 27, 3) := by decide +kernel
theorem d_Ins_placeOfBlock_64 : decode prog_6_method_10_code 64 = .ok (.aload_n 0, 1) := by decide +kernel
theorem d_Ins_placeOfBlock_65 : decode prog_6_method_10_code 65 = .ok (.getfield 9, 3) := by decide +kernel
theorem d_Ins_placeOfBlock_68 : decode prog_6_method_10_code 68 = .ok (.iload 4, 2) := by decide +kernel
theorem d_Ins_placeOfBlock_70 : decode prog_6_method_10_code 70 = .ok (.iload_n 3, 1) := by decide +kernel
theorem d_Ins_placeOfBlock_71 : decode prog_6_method_10_code 71 = .ok (.iconst 2, 1) := by decide +kernel
theorem d_Ins_placeOfBlock_72 : decode prog_6_method_10_code 72 = .ok (.if_icmp .ge 10, 3) := by decide +kernel
theorem d_Ins_placeOfBlock_75 : decode prog_6_method_10_code 75 = .ok (.bipush 26, 2) := by decide +kernel
theorem d_Ins_placeOfBlock_77 : decode prog_6_method_10_code 77 = .ok (.iload_n 3, 1) := by decide +kernel
theorem d_Ins_placeOfBlock_78 : decode prog_6_method_10_code 78 = .ok (.iadd, 1) := by decide +kernel
theorem d_Ins_placeOfBlock_79 : decode prog_6_method_10_code 79 = .ok (.goto 6, 3) := by decide +kernel
theorem d_Ins_placeOfBlock_82 : decode prog_6_method_10_code 82 = .ok (.iload_n 3, 1) := by decide +kernel
theorem d_Ins_placeOfBlock_83 : decode prog_6_method_10_code 83 = .ok (.iconst 2, 1) := by decide +kernel
theorem d_Ins_placeOfBlock_84 : decode prog_6_method_10_code 84 = .ok (.isub, 1) := by decide +kernel
theorem d_Ins_placeOfBlock_85 : decode prog_6_method_10_code 85 = .ok (.invokevirtual 103, 3) := by decide +kernel
theorem d_Ins_placeOfBlock_88 : decode prog_6_method_10_code 88 = .ok (.istore 5, 2) := by decide +kernel
theorem d_Ins_placeOfBlock_90 : decode prog_6_method_10_code 90 = .ok (.iload 5, 2) := by decide +kernel
theorem d_Ins_placeOfBlock_92 : decode prog_6_method_10_code 92 = .ok (.ifCond .ne 7, 3) := by decide +kernel
theorem d_Ins_placeOfBlock_95 : decode prog_6_method_10_code 95 = .ok (.iconst 0, 1) := by decide +kernel
theorem d_Ins_placeOfBlock_96 : decode prog_6_method_10_code 96 = .ok (.goto 26, 3) := by decide +kernel
theorem d_Ins_placeOfBlock_99 : decode prog_6_method_10_code 99 = .ok (.aload_n 0, 1) := by decide +kernel
theorem d_Ins_placeOfBlock_100 : decode prog_6_method_10_code 100 = .ok (.getfield 9, 3) := by decide +kernel
theorem d_Ins_placeOfBlock_103 : decode prog_6_method_10_code 103 = .ok (.aload_n 0, 1) := by decide +kernel
theorem d_Ins_placeOfBlock_104 : decode prog_6_method_10_code 104 = .ok (.getfield 15, 3) := by decide +kernel
theorem d_Ins_placeOfBlock_107 : decode prog_6_method_10_code 107 = .ok (.iload 5, 2) := by decide +kernel
theorem d_Ins_placeOfBlock_109 : decode prog_6_method_10_code 109 = .ok (.invokevirtual 53, 3) := by decide +kernel
theorem d_Ins_placeOfBlock_112 : decode prog_6_method_10_code 112 = .ok (.iload_n 2, 1) := by decide +kernel
theorem d_Ins_placeOfBlock_113 : decode prog_6_method_10_code 113 = .ok (.bipush 20, 2) := by decide +kernel
theorem d_Ins_placeOfBlock_115 : decode prog_6_method_10_code 115 = .ok (.isub, 1) := by decide +kernel
theorem d_Ins_placeOfBlock_116 : decode prog_6_method_10_code 116 = .ok (.bipush 56, 2) := by decide +kernel
theorem d_Ins_placeOfBlock_118 : decode prog_6_method_10_code 118 = .ok (.irem, 1) := by decide +kernel
theorem d_Ins_placeOfBlock_119 : decode prog_6_method_10_code 119 = .ok (.invokevirtual 103, 3) := by decide +kernel
theorem d_Ins_placeOfBlock_122 : decode prog_6_method_10_code 122 = .ok (.ireturn, 1) := by decide +kernel
set_option maxHeartbeats 4000000 in
set_option maxRecDepth 100000 in
theorem v_Ins_placeOfBlock_88 {p : Program} {l : Launch} {e : Env} {s : State} {m : MethodId} {args : Array Value} {below : List Frame} {meth : Method} {c : Code} {D : va_G} {ad : Nat → Nat} {ca : Nat → ClassId} {A : Nat → Prop} {FU : Nat} {q : Int32} {g : St} (X : FX p s m meth c prog_6_method_10_code 6 (some .int) "FlashFiles$Inspector" D (tyF ca) A) {y2 : Int32} {z0 : Int32}  {H : Heap} {locs : List Loc} {ls : Array Slot} (hP : va_P D cls (wF ad ca g) H) (hD : va_D A (wF ad ca g)) (hS : va_S A s.heap H locs) (hl : lv_has ls 6 [(0, .ref (ad 10)), (2, .int y2)]) (h : Ins_placeOfBlock_b88 FU y2 z0 g = some q) : W p l e (rmN 2) s m args below meth c H locs 0 0 (MQ below (fxQi D (tyF ca) A (wF ad ca g) q) args s 0 0 A) (F0 m 88 ls [.int z0]) := by
  have hx := X.1
  have hb := X.2.1
  unfold Ins_placeOfBlock_b88 at h
  refine lv_istore hx hb d_Ins_placeOfBlock_88 hl (by decide) rfl (fun ls hl => ?_)
  have hl : lv_has ls 6 [(5, .int z0), (0, .ref (ad 10)), (2, .int y2)] := hl
  refine lv_iload hx hb d_Ins_placeOfBlock_90 (lv_at hl 0 rfl) ?_
  refine lv_if_ne (tgt := 99) hx hb d_Ins_placeOfBlock_92 (by decide) (fun hc => ?_) (fun hc => ?_)
  · have h := if_f hc h
    refine lv_aload_n hx hb d_Ins_placeOfBlock_99 rfl (lv_at hl 1 rfl) ?_
    refine gF_ins_device X hP d_Ins_placeOfBlock_100 ?_
    refine lv_aload_n hx hb d_Ins_placeOfBlock_103 rfl (lv_at hl 1 rfl) ?_
    refine gF_ins_table X hP d_Ins_placeOfBlock_104 ?_
    refine lv_iload hx hb d_Ins_placeOfBlock_107 (lv_at hl 0 rfl) ?_
    obtain ⟨v1, e1, h⟩ := bd_some h
    refine fx_i X (fx_runV (As := [.int z0]) X (m_Tab_placeOf e1 _) hP hD kv_Ins_53 ⟨Nat.le_of_ble_eq_true rfl, Nat.le_of_ble_eq_true rfl⟩ 4 rfl rfl rfl hl.1 rfl (Nat.le_of_ble_eq_true rfl) d_Ins_placeOfBlock_109) hD hS (fun H locs hP hD hS => ?_)
    refine lv_iload_n hx hb d_Ins_placeOfBlock_112 rfl (lv_at hl 2 rfl) ?_
    refine lv_bipush (v := 20) hx hb d_Ins_placeOfBlock_113 (by decide) ?_
    refine lv_isub hx hb d_Ins_placeOfBlock_115 ?_
    refine lv_bipush (v := 56) hx hb d_Ins_placeOfBlock_116 (by decide) ?_
    refine lv_irem hx hb d_Ins_placeOfBlock_118 (by decide) ?_
    obtain ⟨v2, e1, h⟩ := bd_some h
    refine fx_i X (fx_runV (As := [.int v1, .int ((y2 - (20 : Int32)) - (y2 - (20 : Int32)) / (56 : Int32) * (56 : Int32))]) X (m_Dev_word e1 _) hP hD kv_Ins_103 ⟨Nat.le_of_ble_eq_true rfl, Nat.le_of_ble_eq_true rfl⟩ 3 rfl rfl rfl hl.1 rfl (Nat.le_of_ble_eq_true rfl) d_Ins_placeOfBlock_119) hD hS (fun H locs hP hD hS => ?_)
    cases h
    exact fx_iret X hP hD hS d_Ins_placeOfBlock_122
  · have h := if_t hc h
    refine lv_iconst (v := 0) hx hb d_Ins_placeOfBlock_95 (by decide) ?_
    refine lv_goto (tgt := 122) hx hb d_Ins_placeOfBlock_96 (by decide) ?_
    cases h
    exact fx_iret X hP hD hS d_Ins_placeOfBlock_122
set_option maxHeartbeats 4000000 in
set_option maxRecDepth 100000 in
theorem v_Ins_placeOfBlock_85 {p : Program} {l : Launch} {e : Env} {s : State} {m : MethodId} {args : Array Value} {below : List Frame} {meth : Method} {c : Code} {D : va_G} {ad : Nat → Nat} {ca : Nat → ClassId} {A : Nat → Prop} {FU : Nat} {q : Int32} {g : St} (X : FX p s m meth c prog_6_method_10_code 6 (some .int) "FlashFiles$Inspector" D (tyF ca) A) {y2 : Int32} {z0 : Int32} {z1 : Int32}  {H : Heap} {locs : List Loc} {ls : Array Slot} (hP : va_P D cls (wF ad ca g) H) (hD : va_D A (wF ad ca g)) (hS : va_S A s.heap H locs) (hl : lv_has ls 6 [(0, .ref (ad 10)), (2, .int y2)]) (h : Ins_placeOfBlock_b85 FU y2 z0 z1 g = some q) : W p l e (rmN 2) s m args below meth c H locs 0 0 (MQ below (fxQi D (tyF ca) A (wF ad ca g) q) args s 0 0 A) (F0 m 85 ls [.int z0, .int z1, .ref (ad 3)]) := by
  have hx := X.1
  have hb := X.2.1
  unfold Ins_placeOfBlock_b85 at h
  obtain ⟨v3, e1, h⟩ := bd_some h
  refine fx_i X (fx_runV (As := [.int z1, .int z0]) X (m_Dev_word e1 _) hP hD kv_Ins_103 ⟨Nat.le_of_ble_eq_true rfl, Nat.le_of_ble_eq_true rfl⟩ 3 rfl rfl rfl hl.1 rfl (Nat.le_of_ble_eq_true rfl) d_Ins_placeOfBlock_85) hD hS (fun H locs hP hD hS => ?_)
  exact v_Ins_placeOfBlock_88 X  hP hD hS (lv_sub hl [0, 1] rfl) h
set_option maxHeartbeats 4000000 in
set_option maxRecDepth 100000 in
theorem v_Ins_placeOfBlock_53 {p : Program} {l : Launch} {e : Env} {s : State} {m : MethodId} {args : Array Value} {below : List Frame} {meth : Method} {c : Code} {D : va_G} {ad : Nat → Nat} {ca : Nat → ClassId} {A : Nat → Prop} {FU : Nat} {q : Int32} {g : St} (X : FX p s m meth c prog_6_method_10_code 6 (some .int) "FlashFiles$Inspector" D (tyF ca) A) {y2 : Int32} {y3 : Int32} {z0 : Int32}  {H : Heap} {locs : List Loc} {ls : Array Slot} (hP : va_P D cls (wF ad ca g) H) (hD : va_D A (wF ad ca g)) (hS : va_S A s.heap H locs) (hl : lv_has ls 6 [(0, .ref (ad 10)), (2, .int y2), (3, .int y3)]) (h : Ins_placeOfBlock_b53 FU y2 y3 z0 g = some q) : W p l e (rmN 2) s m args below meth c H locs 0 0 (MQ below (fxQi D (tyF ca) A (wF ad ca g) q) args s 0 0 A) (F0 m 53 ls [.int z0]) := by
  have hx := X.1
  have hb := X.2.1
  unfold Ins_placeOfBlock_b53 at h
  refine lv_istore hx hb d_Ins_placeOfBlock_53 hl (by decide) rfl (fun ls hl => ?_)
  have hl : lv_has ls 6 [(4, .int z0), (0, .ref (ad 10)), (2, .int y2), (3, .int y3)] := hl
  refine lv_iload hx hb d_Ins_placeOfBlock_55 (lv_at hl 0 rfl) ?_
  refine lv_if_ne (tgt := 64) hx hb d_Ins_placeOfBlock_57 (by decide) (fun hc => ?_) (fun hc => ?_)
  · have h := if_f hc h
    refine lv_aload_n hx hb d_Ins_placeOfBlock_64 rfl (lv_at hl 1 rfl) ?_
    refine gF_ins_device X hP d_Ins_placeOfBlock_65 ?_
    refine lv_iload hx hb d_Ins_placeOfBlock_68 (lv_at hl 0 rfl) ?_
    refine lv_iload_n hx hb d_Ins_placeOfBlock_70 rfl (lv_at hl 3 rfl) ?_
    refine lv_iconst (v := 2) hx hb d_Ins_placeOfBlock_71 (by decide) ?_
    refine lv_icmp_ge (tgt := 82) hx hb d_Ins_placeOfBlock_72 (by decide) (fun hc => ?_) (fun hc => ?_)
    · have h := if_t hc h
      refine lv_iload_n hx hb d_Ins_placeOfBlock_82 rfl (lv_at hl 3 rfl) ?_
      refine lv_iconst (v := 2) hx hb d_Ins_placeOfBlock_83 (by decide) ?_
      refine lv_isub hx hb d_Ins_placeOfBlock_84 ?_
      exact v_Ins_placeOfBlock_85 X  hP hD hS (lv_sub hl [1, 2] rfl) h
    · have h := if_f hc h
      refine lv_bipush (v := 26) hx hb d_Ins_placeOfBlock_75 (by decide) ?_
      refine lv_iload_n hx hb d_Ins_placeOfBlock_77 rfl (lv_at hl 3 rfl) ?_
      refine lv_iadd hx hb d_Ins_placeOfBlock_78 ?_
      refine lv_goto (tgt := 85) hx hb d_Ins_placeOfBlock_79 (by decide) ?_
      exact v_Ins_placeOfBlock_85 X  hP hD hS (lv_sub hl [1, 2] rfl) h
  · have h := if_t hc h
    refine lv_iconst (v := 0) hx hb d_Ins_placeOfBlock_60 (by decide) ?_
    refine lv_goto (tgt := 88) hx hb d_Ins_placeOfBlock_61 (by decide) ?_
    exact v_Ins_placeOfBlock_88 X  hP hD hS (lv_sub hl [1, 2] rfl) h
set_option maxHeartbeats 4000000 in
set_option maxRecDepth 100000 in
theorem m_Ins_placeOfBlock {l : Launch} {D : va_G} {ad : Nat → Nat} {ca : Nat → ClassId} {FU : Nat} {x1 : Int32} {x2 : Int32} {g : St} {q : Int32} (h : Ins_placeOfBlock FU x1 x2 g = some q) : CI l ⟨"FlashFiles$Inspector", "placeOfBlock", "(II)I"⟩ prog_6_method_10_code 6 2 (some .int) D (tyF ca) (wF ad ca g) [.ref (ad 10), .int x1, .int x2] q (wF ad ca g) := by
  intro sz
  refine Met.fx (Qc := fun A => fxQi D (tyF ca) A (wF ad ca g) q) (by decide) (Nat.le_of_ble_eq_true rfl) ?_
  intro p e s m below meth c A ls X hP hD hl
  have hl : lv_has ls 6 [(0, .ref (ad 10)), (1, .int x1), (2, .int x2)] := hl
  have hS : va_S A s.heap s.heap [] := va_S.rf
  have hx := X.1
  have hb := X.2.1
  unfold Ins_placeOfBlock at h
  refine lv_iload_n hx hb d_Ins_placeOfBlock_0 rfl (lv_at hl 2 rfl) ?_
  refine lv_bipush (v := 20) hx hb d_Ins_placeOfBlock_1 (by decide) ?_
  refine lv_icmp_ge (tgt := 19) hx hb d_Ins_placeOfBlock_3 (by decide) (fun hc => ?_) (fun hc => ?_)
  · have h := if_t hc h
    refine lv_iload_n hx hb d_Ins_placeOfBlock_19 rfl (lv_at hl 2 rfl) ?_
    refine lv_bipush (v := 20) hx hb d_Ins_placeOfBlock_20 (by decide) ?_
    refine lv_isub hx hb d_Ins_placeOfBlock_22 ?_
    refine lv_bipush (v := 56) hx hb d_Ins_placeOfBlock_23 (by decide) ?_
    refine lv_idiv hx hb d_Ins_placeOfBlock_25 (by decide) ?_
    refine lv_istore_n hx hb d_Ins_placeOfBlock_26 rfl hl (by decide) rfl (fun ls hl => ?_)
    have hl : lv_has ls 6 [(3, .int ((x2 - (20 : Int32)) / (56 : Int32))), (0, .ref (ad 10)), (1, .int x1), (2, .int x2)] := hl
    refine lv_iload_n hx hb d_Ins_placeOfBlock_27 rfl (lv_at hl 0 rfl) ?_
    refine lv_iconst (v := 2) hx hb d_Ins_placeOfBlock_28 (by decide) ?_
    refine lv_icmp_ge (tgt := 36) hx hb d_Ins_placeOfBlock_29 (by decide) (fun hc => ?_) (fun hc => ?_)
    · have h := if_t hc h
      refine lv_aload_n hx hb d_Ins_placeOfBlock_36 rfl (lv_at hl 1 rfl) ?_
      refine gF_ins_table X hP d_Ins_placeOfBlock_37 ?_
      refine lv_aload_n hx hb d_Ins_placeOfBlock_40 rfl (lv_at hl 1 rfl) ?_
      refine gF_ins_device X hP d_Ins_placeOfBlock_41 ?_
      refine lv_iload_n hx hb d_Ins_placeOfBlock_44 rfl (lv_at hl 2 rfl) ?_
      refine lv_bipush (v := 28) hx hb d_Ins_placeOfBlock_45 (by decide) ?_
      obtain ⟨v4, e1, h⟩ := bd_some h
      refine fx_i X (fx_runV (As := [.int x1, .int (28 : Int32)]) X (m_Dev_word e1 _) hP hD kv_Ins_103 ⟨Nat.le_of_ble_eq_true rfl, Nat.le_of_ble_eq_true rfl⟩ 3 rfl rfl rfl hl.1 rfl (Nat.le_of_ble_eq_true rfl) d_Ins_placeOfBlock_47) hD hS (fun H locs hP hD hS => ?_)
      obtain ⟨v5, e1, h⟩ := bd_some h
      refine fx_i X (fx_runV (As := [.int v4]) X (m_Tab_placeOf e1 _) hP hD kv_Ins_53 ⟨Nat.le_of_ble_eq_true rfl, Nat.le_of_ble_eq_true rfl⟩ 4 rfl rfl rfl hl.1 rfl (Nat.le_of_ble_eq_true rfl) d_Ins_placeOfBlock_50) hD hS (fun H locs hP hD hS => ?_)
      exact v_Ins_placeOfBlock_53 X  hP hD hS (lv_sub hl [1, 3, 0] rfl) h
    · have h := if_f hc h
      refine lv_iload_n hx hb d_Ins_placeOfBlock_32 rfl (lv_at hl 2 rfl) ?_
      refine lv_goto (tgt := 53) hx hb d_Ins_placeOfBlock_33 (by decide) ?_
      exact v_Ins_placeOfBlock_53 X  hP hD hS (lv_sub hl [1, 3, 0] rfl) h
  · have h := if_f hc h
    refine lv_aload_n hx hb d_Ins_placeOfBlock_6 rfl (lv_at hl 0 rfl) ?_
    refine gF_ins_device X hP d_Ins_placeOfBlock_7 ?_
    refine lv_iload_n hx hb d_Ins_placeOfBlock_10 rfl (lv_at hl 1 rfl) ?_
    refine lv_bipush (v := 6) hx hb d_Ins_placeOfBlock_11 (by decide) ?_
    refine lv_iload_n hx hb d_Ins_placeOfBlock_13 rfl (lv_at hl 2 rfl) ?_
    refine lv_iadd hx hb d_Ins_placeOfBlock_14 ?_
    obtain ⟨v6, e1, h⟩ := bd_some h
    refine fx_i X (fx_runV (As := [.int x1, .int ((6 : Int32) + x2)]) X (m_Dev_word e1 _) hP hD kv_Ins_103 ⟨Nat.le_of_ble_eq_true rfl, Nat.le_of_ble_eq_true rfl⟩ 3 rfl rfl rfl hl.1 rfl (Nat.le_of_ble_eq_true rfl) d_Ins_placeOfBlock_15) hD hS (fun H locs hP hD hS => ?_)
    cases h
    exact fx_iret X hP hD hS d_Ins_placeOfBlock_18
theorem d_Ins_inspectFile_0 : decode prog_6_method_9_code 0 = .ok (.iconst 0, 1) := by decide +kernel
theorem d_Ins_inspectFile_1 : decode prog_6_method_9_code 1 = .ok (.istore_n 3, 1) := by decide +kernel
theorem d_Ins_inspectFile_2 : decode prog_6_method_9_code 2 = .ok (.bipush 26, 2) := by decide +kernel
theorem d_Ins_inspectFile_4 : decode prog_6_method_9_code 4 = .ok (.istore 4, 2) := by decide +kernel
theorem d_Ins_inspectFile_6 : decode prog_6_method_9_code 6 = .ok (.iload 4, 2) := by decide +kernel
theorem d_Ins_inspectFile_8 : decode prog_6_method_9_code 8 = .ok (.bipush 28, 2) := by decide +kernel
theorem d_Ins_inspectFile_10 : decode prog_6_method_9_code 10 = .ok (.if_icmp .gt 76, 3) := by decide +kernel
theorem d_Ins_inspectFile_13 : decode prog_6_method_9_code 13 = .ok (.aload_n 0, 1) := by decide +kernel
theorem d_Ins_inspectFile_14 : decode prog_6_method_9_code 14 = .ok (.getfield 9, 3) := by decide +kernel
theorem d_Ins_inspectFile_17 : decode prog_6_method_9_code 17 = .ok (.iload_n 2, 1) := by decide +kernel
theorem d_Ins_inspectFile_18 : decode prog_6_method_9_code 18 = .ok (.iload 4, 2) := by decide +kernel
theorem d_Ins_inspectFile_20 : decode prog_6_method_9_code 20 = .ok (.invokevirtual 103, 3) := by decide +kernel
theorem d_Ins_inspectFile_23 : decode prog_6_method_9_code 23 = .ok (.istore 5, 2) := by decide +kernel
theorem d_Ins_inspectFile_25 : decode prog_6_method_9_code 25 = .ok (.aload_n 0, 1) := by decide +kernel
theorem d_Ins_inspectFile_26 : decode prog_6_method_9_code 26 = .ok (.iload 5, 2) := by decide +kernel
theorem d_Ins_inspectFile_28 : decode prog_6_method_9_code 28 = .ok (.invokevirtual 124, 3) := by decide +kernel
theorem d_Ins_inspectFile_31 : decode prog_6_method_9_code 31 = .ok (.aload_n 0, 1) := by decide +kernel
theorem d_Ins_inspectFile_32 : decode prog_6_method_9_code 32 = .ok (.iload 5, 2) := by decide +kernel
theorem d_Ins_inspectFile_34 : decode prog_6_method_9_code 34 = .ok (.ifCond .eq 25, 3) := by decide +kernel
theorem d_Ins_inspectFile_37 : decode prog_6_method_9_code 37 = .ok (.aload_n 0, 1) := by decide +kernel
theorem d_Ins_inspectFile_38 : decode prog_6_method_9_code 38 = .ok (.getfield 9, 3) := by decide +kernel
theorem d_Ins_inspectFile_41 : decode prog_6_method_9_code 41 = .ok (.aload_n 0, 1) := by decide +kernel
theorem d_Ins_inspectFile_42 : decode prog_6_method_9_code 42 = .ok (.getfield 15, 3) := by decide +kernel
theorem d_Ins_inspectFile_45 : decode prog_6_method_9_code 45 = .ok (.iload 5, 2) := by decide +kernel
theorem d_Ins_inspectFile_47 : decode prog_6_method_9_code 47 = .ok (.invokevirtual 53, 3) := by decide +kernel
theorem d_Ins_inspectFile_50 : decode prog_6_method_9_code 50 = .ok (.bipush 61, 2) := by decide +kernel
theorem d_Ins_inspectFile_52 : decode prog_6_method_9_code 52 = .ok (.invokevirtual 103, 3) := by decide +kernel
theorem d_Ins_inspectFile_55 : decode prog_6_method_9_code 55 = .ok (.iload_n 1, 1) := by decide +kernel
theorem d_Ins_inspectFile_56 : decode prog_6_method_9_code 56 = .ok (.if_icmp .ne 7, 3) := by decide +kernel
theorem d_Ins_inspectFile_59 : decode prog_6_method_9_code 59 = .ok (.iconst 1, 1) := by decide +kernel
theorem d_Ins_inspectFile_60 : decode prog_6_method_9_code 60 = .ok (.goto 4, 3) := by decide +kernel
theorem d_Ins_inspectFile_63 : decode prog_6_method_9_code 63 = .ok (.iconst 0, 1) := by decide +kernel
theorem d_Ins_inspectFile_64 : decode prog_6_method_9_code 64 = .ok (.invokevirtual 92, 3) := by decide +kernel
theorem d_Ins_inspectFile_67 : decode prog_6_method_9_code 67 = .ok (.iload_n 3, 1) := by decide +kernel
theorem d_Ins_inspectFile_68 : decode prog_6_method_9_code 68 = .ok (.iload 5, 2) := by decide +kernel
theorem d_Ins_inspectFile_70 : decode prog_6_method_9_code 70 = .ok (.ifCond .eq 7, 3) := by decide +kernel
theorem d_Ins_inspectFile_73 : decode prog_6_method_9_code 73 = .ok (.iconst 1, 1) := by decide +kernel
theorem d_Ins_inspectFile_74 : decode prog_6_method_9_code 74 = .ok (.goto 4, 3) := by decide +kernel
theorem d_Ins_inspectFile_77 : decode prog_6_method_9_code 77 = .ok (.iconst 0, 1) := by decide +kernel
theorem d_Ins_inspectFile_78 : decode prog_6_method_9_code 78 = .ok (.ior, 1) := by decide +kernel
theorem d_Ins_inspectFile_79 : decode prog_6_method_9_code 79 = .ok (.istore_n 3, 1) := by decide +kernel
theorem d_Ins_inspectFile_80 : decode prog_6_method_9_code 80 = .ok (.iinc 4 1, 3) := by decide +kernel
theorem d_Ins_inspectFile_83 : decode prog_6_method_9_code 83 = .ok (.goto (-77), 3) := by decide +kernel
theorem d_Ins_inspectFile_86 : decode prog_6_method_9_code 86 = .ok (.aload_n 0, 1) := by decide +kernel
theorem d_Ins_inspectFile_87 : decode prog_6_method_9_code 87 = .ok (.getfield 9, 3) := by decide +kernel
theorem d_Ins_inspectFile_90 : decode prog_6_method_9_code 90 = .ok (.iload_n 2, 1) := by decide +kernel
theorem d_Ins_inspectFile_91 : decode prog_6_method_9_code 91 = .ok (.iconst 1, 1) := by decide +kernel
theorem d_Ins_inspectFile_92 : decode prog_6_method_9_code 92 = .ok (.invokevirtual 103, 3) := by decide +kernel
theorem d_Ins_inspectFile_95 : decode prog_6_method_9_code 95 = .ok (.istore 4, 2) := by decide +kernel
theorem d_Ins_inspectFile_97 : decode prog_6_method_9_code 97 = .ok (.iload_n 3, 1) := by decide +kernel
theorem d_Ins_inspectFile_98 : decode prog_6_method_9_code 98 = .ok (.ifCond .eq 11, 3) := by decide +kernel
theorem d_Ins_inspectFile_101 : decode prog_6_method_9_code 101 = .ok (.ldc 135, 2) := by decide +kernel
theorem d_Ins_inspectFile_103 : decode prog_6_method_9_code 103 = .ok (.invokestatic 136, 3) := by decide +kernel
theorem d_Ins_inspectFile_106 : decode prog_6_method_9_code 106 = .ok (.goto 5, 3) := by decide +kernel
theorem d_Ins_inspectFile_109 : decode prog_6_method_9_code 109 = .ok (.bipush 20, 2) := by decide +kernel
theorem d_Ins_inspectFile_111 : decode prog_6_method_9_code 111 = .ok (.istore 5, 2) := by decide +kernel
theorem d_Ins_inspectFile_113 : decode prog_6_method_9_code 113 = .ok (.iconst 0, 1) := by decide +kernel
theorem d_Ins_inspectFile_114 : decode prog_6_method_9_code 114 = .ok (.istore 6, 2) := by decide +kernel
theorem d_Ins_inspectFile_116 : decode prog_6_method_9_code 116 = .ok (.iconst 0, 1) := by decide +kernel
theorem d_Ins_inspectFile_117 : decode prog_6_method_9_code 117 = .ok (.istore 7, 2) := by decide +kernel
theorem d_Ins_inspectFile_119 : decode prog_6_method_9_code 119 = .ok (.iload 7, 2) := by decide +kernel
theorem d_Ins_inspectFile_121 : decode prog_6_method_9_code 121 = .ok (.iload 5, 2) := by decide +kernel
theorem d_Ins_inspectFile_123 : decode prog_6_method_9_code 123 = .ok (.if_icmp .ge 41, 3) := by decide +kernel
theorem d_Ins_inspectFile_126 : decode prog_6_method_9_code 126 = .ok (.aload_n 0, 1) := by decide +kernel
theorem d_Ins_inspectFile_127 : decode prog_6_method_9_code 127 = .ok (.iload_n 2, 1) := by decide +kernel
theorem d_Ins_inspectFile_128 : decode prog_6_method_9_code 128 = .ok (.iload 7, 2) := by decide +kernel
theorem d_Ins_inspectFile_130 : decode prog_6_method_9_code 130 = .ok (.invokevirtual 139, 3) := by decide +kernel
theorem d_Ins_inspectFile_133 : decode prog_6_method_9_code 133 = .ok (.ifCond .eq 25, 3) := by decide +kernel
theorem d_Ins_inspectFile_136 : decode prog_6_method_9_code 136 = .ok (.iinc 6 1, 3) := by decide +kernel
theorem d_Ins_inspectFile_139 : decode prog_6_method_9_code 139 = .ok (.aload_n 0, 1) := by decide +kernel
theorem d_Ins_inspectFile_140 : decode prog_6_method_9_code 140 = .ok (.iload 7, 2) := by decide +kernel
theorem d_Ins_inspectFile_142 : decode prog_6_method_9_code 142 = .ok (.iload 4, 2) := by decide +kernel
theorem d_Ins_inspectFile_144 : decode prog_6_method_9_code 144 = .ok (.invokestatic 136, 3) := by decide +kernel
theorem d_Ins_inspectFile_147 : decode prog_6_method_9_code 147 = .ok (.if_icmp .ge 7, 3) := by decide +kernel
theorem d_Ins_inspectFile_150 : decode prog_6_method_9_code 150 = .ok (.iconst 1, 1) := by decide +kernel
theorem d_Ins_inspectFile_151 : decode prog_6_method_9_code 151 = .ok (.goto 4, 3) := by decide +kernel
theorem d_Ins_inspectFile_154 : decode prog_6_method_9_code 154 = .ok (.iconst 0, 1) := by decide +kernel
theorem d_Ins_inspectFile_155 : decode prog_6_method_9_code 155 = .ok (.invokevirtual 92, 3) := by decide +kernel
theorem d_Ins_inspectFile_158 : decode prog_6_method_9_code 158 = .ok (.iinc 7 1, 3) := by decide +kernel
theorem d_Ins_inspectFile_161 : decode prog_6_method_9_code 161 = .ok (.goto (-42), 3) := by decide +kernel
theorem d_Ins_inspectFile_164 : decode prog_6_method_9_code 164 = .ok (.aload_n 0, 1) := by decide +kernel
theorem d_Ins_inspectFile_165 : decode prog_6_method_9_code 165 = .ok (.iload 6, 2) := by decide +kernel
theorem d_Ins_inspectFile_167 : decode prog_6_method_9_code 167 = .ok (.aload_n 0, 1) := by decide +kernel
theorem d_Ins_inspectFile_168 : decode prog_6_method_9_code 168 = .ok (.getfield 9, 3) := by decide +kernel
theorem d_Ins_inspectFile_171 : decode prog_6_method_9_code 171 = .ok (.iload_n 2, 1) := by decide +kernel
theorem d_Ins_inspectFile_172 : decode prog_6_method_9_code 172 = .ok (.iconst 4, 1) := by decide +kernel
theorem d_Ins_inspectFile_173 : decode prog_6_method_9_code 173 = .ok (.invokevirtual 103, 3) := by decide +kernel
theorem d_Ins_inspectFile_176 : decode prog_6_method_9_code 176 = .ok (.if_icmp .ne 7, 3) := by decide +kernel
theorem d_Ins_inspectFile_179 : decode prog_6_method_9_code 179 = .ok (.iconst 1, 1) := by decide +kernel
theorem d_Ins_inspectFile_180 : decode prog_6_method_9_code 180 = .ok (.goto 4, 3) := by decide +kernel
theorem d_Ins_inspectFile_183 : decode prog_6_method_9_code 183 = .ok (.iconst 0, 1) := by decide +kernel
theorem d_Ins_inspectFile_184 : decode prog_6_method_9_code 184 = .ok (.invokevirtual 92, 3) := by decide +kernel
theorem d_Ins_inspectFile_187 : decode prog_6_method_9_code 187 = .ok (.aload_n 0, 1) := by decide +kernel
theorem d_Ins_inspectFile_188 : decode prog_6_method_9_code 188 = .ok (.aload_n 0, 1) := by decide +kernel
theorem d_Ins_inspectFile_189 : decode prog_6_method_9_code 189 = .ok (.getfield 9, 3) := by decide +kernel
theorem d_Ins_inspectFile_192 : decode prog_6_method_9_code 192 = .ok (.iload_n 2, 1) := by decide +kernel
theorem d_Ins_inspectFile_193 : decode prog_6_method_9_code 193 = .ok (.iconst 3, 1) := by decide +kernel
theorem d_Ins_inspectFile_194 : decode prog_6_method_9_code 194 = .ok (.invokevirtual 103, 3) := by decide +kernel
theorem d_Ins_inspectFile_197 : decode prog_6_method_9_code 197 = .ok (.ifCond .eq 15, 3) := by decide +kernel
theorem d_Ins_inspectFile_200 : decode prog_6_method_9_code 200 = .ok (.iload 6, 2) := by decide +kernel
theorem d_Ins_inspectFile_202 : decode prog_6_method_9_code 202 = .ok (.ifCond .ne 14, 3) := by decide +kernel
theorem d_Ins_inspectFile_205 : decode prog_6_method_9_code 205 = .ok (.iload 4, 2) := by decide +kernel
theorem d_Ins_inspectFile_207 : decode prog_6_method_9_code 207 = .ok (.bipush 96, 2) := by decide +kernel
theorem d_Ins_inspectFile_209 : decode prog_6_method_9_code 209 = .ok (.if_icmp .gt 7, 3) := by decide +kernel
theorem d_Ins_inspectFile_212 : decode prog_6_method_9_code 212 = .ok (.iconst 1, 1) := by decide +kernel
theorem d_Ins_inspectFile_213 : decode prog_6_method_9_code 213 = .ok (.goto 4, 3) := by decide +kernel
theorem d_Ins_inspectFile_216 : decode prog_6_method_9_code 216 = .ok (.iconst 0, 1) := by decide +kernel
theorem d_Ins_inspectFile_217 : decode prog_6_method_9_code 217 = .ok (.invokevirtual 92, 3) := by decide +kernel
theorem d_Ins_inspectFile_220 : decode prog_6_method_9_code 220 = .ok (.return_, 1) := by decide +kernel
set_option maxHeartbeats 4000000 in
set_option maxRecDepth 100000 in
theorem v_Ins_inspectFile_217 {p : Program} {l : Launch} {e : Env} {s : State} {m : MethodId} {args : Array Value} {below : List Frame} {meth : Method} {c : Code} {D : va_G} {ad : Nat → Nat} {ca : Nat → ClassId} {A : Nat → Prop} {FU : Nat} {q : St} (X : FX p s m meth c prog_6_method_9_code 8 none "FlashFiles$Inspector" D (tyF ca) A) {z0 : Int32} {g : St} {H : Heap} {locs : List Loc} {ls : Array Slot} (hP : va_P D cls (wF ad ca g) H) (hD : va_D A (wF ad ca g)) (hS : va_S A s.heap H locs) (hl : lv_has ls 8 []) (h : Ins_inspectFile_b217 FU z0 g = some q) : W p l e (rmN 3) s m args below meth c H locs 0 0 (MQ below (fxQv D (tyF ca) A (wF ad ca q)) args s 0 0 A) (F0 m 217 ls [.int z0, .ref (ad 10)]) := by
  have hx := X.1
  have hb := X.2.1
  unfold Ins_inspectFile_b217 at h
  obtain ⟨p1, e1, h⟩ := bd_some h
  refine fx_v X (fx_runV (As := [.int z0]) X (m_Ins_expect e1 _) hP hD kv_Ins_92 ⟨Nat.le_of_ble_eq_true rfl, Nat.le_of_ble_eq_true rfl⟩ 10 rfl rfl rfl hl.1 rfl (Nat.le_of_ble_eq_true rfl) d_Ins_inspectFile_217) hD hS (fun H locs hP hD hS => ?_)
  cases h
  exact fx_vret X hP hD hS d_Ins_inspectFile_220
set_option maxHeartbeats 4000000 in
set_option maxRecDepth 100000 in
theorem v_Ins_inspectFile_212 {p : Program} {l : Launch} {e : Env} {s : State} {m : MethodId} {args : Array Value} {below : List Frame} {meth : Method} {c : Code} {D : va_G} {ad : Nat → Nat} {ca : Nat → ClassId} {A : Nat → Prop} {FU : Nat} {q : St} (X : FX p s m meth c prog_6_method_9_code 8 none "FlashFiles$Inspector" D (tyF ca) A)  {g : St} {H : Heap} {locs : List Loc} {ls : Array Slot} (hP : va_P D cls (wF ad ca g) H) (hD : va_D A (wF ad ca g)) (hS : va_S A s.heap H locs) (hl : lv_has ls 8 []) (h : Ins_inspectFile_b212 FU g = some q) : W p l e (rmN 3) s m args below meth c H locs 0 0 (MQ below (fxQv D (tyF ca) A (wF ad ca q)) args s 0 0 A) (F0 m 212 ls [.ref (ad 10)]) := by
  have hx := X.1
  have hb := X.2.1
  unfold Ins_inspectFile_b212 at h
  refine lv_iconst (v := 1) hx hb d_Ins_inspectFile_212 (by decide) ?_
  refine lv_goto (tgt := 217) hx hb d_Ins_inspectFile_213 (by decide) ?_
  exact v_Ins_inspectFile_217 X  hP hD hS (lv_sub hl [] rfl) h
set_option maxHeartbeats 4000000 in
set_option maxRecDepth 100000 in
theorem v_Ins_inspectFile_216 {p : Program} {l : Launch} {e : Env} {s : State} {m : MethodId} {args : Array Value} {below : List Frame} {meth : Method} {c : Code} {D : va_G} {ad : Nat → Nat} {ca : Nat → ClassId} {A : Nat → Prop} {FU : Nat} {q : St} (X : FX p s m meth c prog_6_method_9_code 8 none "FlashFiles$Inspector" D (tyF ca) A)  {g : St} {H : Heap} {locs : List Loc} {ls : Array Slot} (hP : va_P D cls (wF ad ca g) H) (hD : va_D A (wF ad ca g)) (hS : va_S A s.heap H locs) (hl : lv_has ls 8 []) (h : Ins_inspectFile_b216 FU g = some q) : W p l e (rmN 3) s m args below meth c H locs 0 0 (MQ below (fxQv D (tyF ca) A (wF ad ca q)) args s 0 0 A) (F0 m 216 ls [.ref (ad 10)]) := by
  have hx := X.1
  have hb := X.2.1
  unfold Ins_inspectFile_b216 at h
  refine lv_iconst (v := 0) hx hb d_Ins_inspectFile_216 (by decide) ?_
  exact v_Ins_inspectFile_217 X  hP hD hS (lv_sub hl [] rfl) h
set_option maxHeartbeats 4000000 in
set_option maxRecDepth 100000 in
theorem v_Ins_inspectFile_184 {p : Program} {l : Launch} {e : Env} {s : State} {m : MethodId} {args : Array Value} {below : List Frame} {meth : Method} {c : Code} {D : va_G} {ad : Nat → Nat} {ca : Nat → ClassId} {A : Nat → Prop} {FU : Nat} {q : St} (X : FX p s m meth c prog_6_method_9_code 8 none "FlashFiles$Inspector" D (tyF ca) A) {y2 : Int32} {y4 : Int32} {y6 : Int32} {z0 : Int32} {g : St} {H : Heap} {locs : List Loc} {ls : Array Slot} (hP : va_P D cls (wF ad ca g) H) (hD : va_D A (wF ad ca g)) (hS : va_S A s.heap H locs) (hl : lv_has ls 8 [(0, .ref (ad 10)), (2, .int y2), (4, .int y4), (6, .int y6)]) (h : Ins_inspectFile_b184 FU y2 y4 y6 z0 g = some q) : W p l e (rmN 3) s m args below meth c H locs 0 0 (MQ below (fxQv D (tyF ca) A (wF ad ca q)) args s 0 0 A) (F0 m 184 ls [.int z0, .ref (ad 10)]) := by
  have hx := X.1
  have hb := X.2.1
  unfold Ins_inspectFile_b184 at h
  obtain ⟨p2, e1, h⟩ := bd_some h
  refine fx_v X (fx_runV (As := [.int z0]) X (m_Ins_expect e1 _) hP hD kv_Ins_92 ⟨Nat.le_of_ble_eq_true rfl, Nat.le_of_ble_eq_true rfl⟩ 10 rfl rfl rfl hl.1 rfl (Nat.le_of_ble_eq_true rfl) d_Ins_inspectFile_184) hD hS (fun H locs hP hD hS => ?_)
  refine lv_aload_n hx hb d_Ins_inspectFile_187 rfl (lv_at hl 0 rfl) ?_
  refine lv_aload_n hx hb d_Ins_inspectFile_188 rfl (lv_at hl 0 rfl) ?_
  refine gF_ins_device X hP d_Ins_inspectFile_189 ?_
  refine lv_iload_n hx hb d_Ins_inspectFile_192 rfl (lv_at hl 1 rfl) ?_
  refine lv_iconst (v := 3) hx hb d_Ins_inspectFile_193 (by decide) ?_
  obtain ⟨v3, e1, h⟩ := bd_some h
  refine fx_i X (fx_runV (As := [.int y2, .int (3 : Int32)]) X (m_Dev_word e1 _) hP hD kv_Ins_103 ⟨Nat.le_of_ble_eq_true rfl, Nat.le_of_ble_eq_true rfl⟩ 3 rfl rfl rfl hl.1 rfl (Nat.le_of_ble_eq_true rfl) d_Ins_inspectFile_194) hD hS (fun H locs hP hD hS => ?_)
  refine lv_if_eq (tgt := 212) hx hb d_Ins_inspectFile_197 (by decide) (fun hc => ?_) (fun hc => ?_)
  · have h := if_t hc h
    exact v_Ins_inspectFile_212 X  hP hD hS (lv_sub hl [] rfl) h
  · have h := if_f hc h
    refine lv_iload hx hb d_Ins_inspectFile_200 (lv_at hl 3 rfl) ?_
    refine lv_if_ne (tgt := 216) hx hb d_Ins_inspectFile_202 (by decide) (fun hc => ?_) (fun hc => ?_)
    · have h := if_f hc h
      exact v_Ins_inspectFile_216 X  hP hD hS (lv_sub hl [] rfl) h
    · have h := if_t hc h
      refine lv_iload hx hb d_Ins_inspectFile_205 (lv_at hl 2 rfl) ?_
      refine lv_bipush (v := 96) hx hb d_Ins_inspectFile_207 (by decide) ?_
      refine lv_icmp_gt (tgt := 216) hx hb d_Ins_inspectFile_209 (by decide) (fun hc => ?_) (fun hc => ?_)
      · have h := if_t hc h
        exact v_Ins_inspectFile_216 X  hP hD hS (lv_sub hl [] rfl) h
      · have h := if_f hc h
        exact v_Ins_inspectFile_212 X  hP hD hS (lv_sub hl [] rfl) h
set_option maxHeartbeats 4000000 in
set_option maxRecDepth 100000 in
theorem v_Ins_inspectFile_158 {p : Program} {l : Launch} {e : Env} {s : State} {m : MethodId} {args : Array Value} {below : List Frame} {meth : Method} {c : Code} {D : va_G} {ad : Nat → Nat} {ca : Nat → ClassId} {A : Nat → Prop} {FU : Nat} {q : St} (X : FX p s m meth c prog_6_method_9_code 8 none "FlashFiles$Inspector" D (tyF ca) A) {k119 : Int32 → Int32 → Int32 → Int32 → Int32 → St → Option (St)} (hk119 : ∀ (y2 y4 y5 y6 y7 : Int32) (g : St) (H : Heap) (locs : List Loc) (ls : Array Slot), va_P D cls (wF ad ca g) H → va_D A (wF ad ca g) → va_S A s.heap H locs → lv_has ls 8 [(0, .ref (ad 10)), (2, .int y2), (4, .int y4), (5, .int y5), (6, .int y6), (7, .int y7)] → k119 y2 y4 y5 y6 y7 g = some q → W p l e (rmN 3) s m args below meth c H locs 0 0 (MQ below (fxQv D (tyF ca) A (wF ad ca q)) args s 0 0 A) (F0 m 119 ls [])) {y2 : Int32} {y4 : Int32} {y5 : Int32} {y6 : Int32} {y7 : Int32} {g : St} {H : Heap} {locs : List Loc} {ls : Array Slot} (hP : va_P D cls (wF ad ca g) H) (hD : va_D A (wF ad ca g)) (hS : va_S A s.heap H locs) (hl : lv_has ls 8 [(0, .ref (ad 10)), (2, .int y2), (4, .int y4), (5, .int y5), (6, .int y6), (7, .int y7)]) (h : Ins_inspectFile_b158 FU k119 y2 y4 y5 y6 y7 g = some q) : W p l e (rmN 3) s m args below meth c H locs 0 0 (MQ below (fxQv D (tyF ca) A (wF ad ca q)) args s 0 0 A) (F0 m 158 ls []) := by
  have hx := X.1
  have hb := X.2.1
  unfold Ins_inspectFile_b158 at h
  refine lv_iinc (k := 5) (v := (y7 + (1 : Int32))) hx hb d_Ins_inspectFile_158 hl rfl (oi_1 _) (by decide) rfl (fun ls hl => ?_)
  have hl : lv_has ls 8 [(7, .int (y7 + (1 : Int32))), (0, .ref (ad 10)), (2, .int y2), (4, .int y4), (5, .int y5), (6, .int y6)] := hl
  refine lv_goto (tgt := 119) hx hb d_Ins_inspectFile_161 (by decide) ?_
  exact hk119 _ _ _ _ _ _ _ _ _ hP hD hS (lv_sub hl [1, 2, 3, 4, 5, 0] rfl) h
set_option maxHeartbeats 4000000 in
set_option maxRecDepth 100000 in
theorem v_Ins_inspectFile_155 {p : Program} {l : Launch} {e : Env} {s : State} {m : MethodId} {args : Array Value} {below : List Frame} {meth : Method} {c : Code} {D : va_G} {ad : Nat → Nat} {ca : Nat → ClassId} {A : Nat → Prop} {FU : Nat} {q : St} (X : FX p s m meth c prog_6_method_9_code 8 none "FlashFiles$Inspector" D (tyF ca) A) {k119 : Int32 → Int32 → Int32 → Int32 → Int32 → St → Option (St)} (hk119 : ∀ (y2 y4 y5 y6 y7 : Int32) (g : St) (H : Heap) (locs : List Loc) (ls : Array Slot), va_P D cls (wF ad ca g) H → va_D A (wF ad ca g) → va_S A s.heap H locs → lv_has ls 8 [(0, .ref (ad 10)), (2, .int y2), (4, .int y4), (5, .int y5), (6, .int y6), (7, .int y7)] → k119 y2 y4 y5 y6 y7 g = some q → W p l e (rmN 3) s m args below meth c H locs 0 0 (MQ below (fxQv D (tyF ca) A (wF ad ca q)) args s 0 0 A) (F0 m 119 ls [])) {y2 : Int32} {y4 : Int32} {y5 : Int32} {y6 : Int32} {y7 : Int32} {z0 : Int32} {g : St} {H : Heap} {locs : List Loc} {ls : Array Slot} (hP : va_P D cls (wF ad ca g) H) (hD : va_D A (wF ad ca g)) (hS : va_S A s.heap H locs) (hl : lv_has ls 8 [(0, .ref (ad 10)), (2, .int y2), (4, .int y4), (5, .int y5), (6, .int y6), (7, .int y7)]) (h : Ins_inspectFile_b155 FU k119 y2 y4 y5 y6 y7 z0 g = some q) : W p l e (rmN 3) s m args below meth c H locs 0 0 (MQ below (fxQv D (tyF ca) A (wF ad ca q)) args s 0 0 A) (F0 m 155 ls [.int z0, .ref (ad 10)]) := by
  have hx := X.1
  have hb := X.2.1
  unfold Ins_inspectFile_b155 at h
  obtain ⟨p4, e1, h⟩ := bd_some h
  refine fx_v X (fx_runV (As := [.int z0]) X (m_Ins_expect e1 _) hP hD kv_Ins_92 ⟨Nat.le_of_ble_eq_true rfl, Nat.le_of_ble_eq_true rfl⟩ 10 rfl rfl rfl hl.1 rfl (Nat.le_of_ble_eq_true rfl) d_Ins_inspectFile_155) hD hS (fun H locs hP hD hS => ?_)
  exact v_Ins_inspectFile_158 X hk119 hP hD hS (lv_sub hl [0, 1, 2, 3, 4, 5] rfl) h
set_option maxHeartbeats 4000000 in
set_option maxRecDepth 100000 in
theorem v_Ins_inspectFile_119 {p : Program} {l : Launch} {e : Env} {s : State} {m : MethodId} {args : Array Value} {below : List Frame} {meth : Method} {c : Code} {D : va_G} {ad : Nat → Nat} {ca : Nat → ClassId} {A : Nat → Prop} {FU : Nat} {q : St} (X : FX p s m meth c prog_6_method_9_code 8 none "FlashFiles$Inspector" D (tyF ca) A) : ∀ (n : Nat), ∀ (y2 y4 y5 y6 y7 : Int32) (g : St) (H : Heap) (locs : List Loc) (ls : Array Slot), va_P D cls (wF ad ca g) H → va_D A (wF ad ca g) → va_S A s.heap H locs → lv_has ls 8 [(0, .ref (ad 10)), (2, .int y2), (4, .int y4), (5, .int y5), (6, .int y6), (7, .int y7)] → Ins_inspectFile_b119 FU n y2 y4 y5 y6 y7 g = some q → W p l e (rmN 3) s m args below meth c H locs 0 0 (MQ below (fxQv D (tyF ca) A (wF ad ca q)) args s 0 0 A) (F0 m 119 ls []) := by
  have hx := X.1
  have hb := X.2.1
  intro n
  induction n with
  | zero =>
    intro y2 y4 y5 y6 y7 g H locs ls hP hD hS hl h
    cases h
  | succ n ih =>
    intro y2 y4 y5 y6 y7 g H locs ls hP hD hS hl h
    have h := h
    rw [Ins_inspectFile_b119.eq_2] at h
    refine lv_iload hx hb d_Ins_inspectFile_119 (lv_at hl 5 rfl) ?_
    refine lv_iload hx hb d_Ins_inspectFile_121 (lv_at hl 3 rfl) ?_
    refine lv_icmp_ge (tgt := 164) hx hb d_Ins_inspectFile_123 (by decide) (fun hc => ?_) (fun hc => ?_)
    · have h := if_t hc h
      refine lv_aload_n hx hb d_Ins_inspectFile_164 rfl (lv_at hl 0 rfl) ?_
      refine lv_iload hx hb d_Ins_inspectFile_165 (lv_at hl 4 rfl) ?_
      refine lv_aload_n hx hb d_Ins_inspectFile_167 rfl (lv_at hl 0 rfl) ?_
      refine gF_ins_device X hP d_Ins_inspectFile_168 ?_
      refine lv_iload_n hx hb d_Ins_inspectFile_171 rfl (lv_at hl 1 rfl) ?_
      refine lv_iconst (v := 4) hx hb d_Ins_inspectFile_172 (by decide) ?_
      obtain ⟨v5, e1, h⟩ := bd_some h
      refine fx_i X (fx_runV (As := [.int y2, .int (4 : Int32)]) X (m_Dev_word e1 _) hP hD kv_Ins_103 ⟨Nat.le_of_ble_eq_true rfl, Nat.le_of_ble_eq_true rfl⟩ 3 rfl rfl rfl hl.1 rfl (Nat.le_of_ble_eq_true rfl) d_Ins_inspectFile_173) hD hS (fun H locs hP hD hS => ?_)
      refine lv_icmp_ne (tgt := 183) hx hb d_Ins_inspectFile_176 (by decide) (fun hc => ?_) (fun hc => ?_)
      · have h := if_f hc h
        refine lv_iconst (v := 0) hx hb d_Ins_inspectFile_183 (by decide) ?_
        exact v_Ins_inspectFile_184 X  hP hD hS (lv_sub hl [0, 1, 2, 4] rfl) h
      · have h := if_t hc h
        refine lv_iconst (v := 1) hx hb d_Ins_inspectFile_179 (by decide) ?_
        refine lv_goto (tgt := 184) hx hb d_Ins_inspectFile_180 (by decide) ?_
        exact v_Ins_inspectFile_184 X  hP hD hS (lv_sub hl [0, 1, 2, 4] rfl) h
    · have h := if_f hc h
      refine lv_aload_n hx hb d_Ins_inspectFile_126 rfl (lv_at hl 0 rfl) ?_
      refine lv_iload_n hx hb d_Ins_inspectFile_127 rfl (lv_at hl 1 rfl) ?_
      refine lv_iload hx hb d_Ins_inspectFile_128 (lv_at hl 5 rfl) ?_
      obtain ⟨v6, e1, h⟩ := bd_some h
      refine fx_i X (fx_runV (As := [.int y2, .int y7]) X (m_Ins_placeOfBlock e1 _) hP hD kv_Ins_139 ⟨Nat.le_of_ble_eq_true rfl, Nat.le_of_ble_eq_true rfl⟩ 10 rfl rfl rfl hl.1 rfl (Nat.le_of_ble_eq_true rfl) d_Ins_inspectFile_130) hD hS (fun H locs hP hD hS => ?_)
      refine lv_if_eq (tgt := 158) hx hb d_Ins_inspectFile_133 (by decide) (fun hc => ?_) (fun hc => ?_)
      · have h := if_t hc h
        exact v_Ins_inspectFile_158 X ih hP hD hS (lv_sub hl [0, 1, 2, 3, 4, 5] rfl) h
      · have h := if_f hc h
        refine lv_iinc (k := 4) (v := (y6 + (1 : Int32))) hx hb d_Ins_inspectFile_136 hl rfl (oi_1 _) (by decide) rfl (fun ls hl => ?_)
        have hl : lv_has ls 8 [(6, .int (y6 + (1 : Int32))), (0, .ref (ad 10)), (2, .int y2), (4, .int y4), (5, .int y5), (7, .int y7)] := hl
        refine lv_aload_n hx hb d_Ins_inspectFile_139 rfl (lv_at hl 1 rfl) ?_
        refine lv_iload hx hb d_Ins_inspectFile_140 (lv_at hl 5 rfl) ?_
        refine lv_iload hx hb d_Ins_inspectFile_142 (lv_at hl 3 rfl) ?_
        obtain ⟨v7, e1, h⟩ := bd_some h
        refine fx_i X (fx_runN X (m_FF_blocksBegun e1 _) (As := [.int y4]) hP hD kn_Ins_136 ⟨Nat.le_of_ble_eq_true rfl, Nat.le_of_ble_eq_true rfl⟩ rfl hl.1 rfl (Nat.le_of_ble_eq_true rfl) d_Ins_inspectFile_144) hD hS (fun H locs hP hD hS => ?_)
        refine lv_icmp_ge (tgt := 154) hx hb d_Ins_inspectFile_147 (by decide) (fun hc => ?_) (fun hc => ?_)
        · have h := if_t hc h
          refine lv_iconst (v := 0) hx hb d_Ins_inspectFile_154 (by decide) ?_
          exact v_Ins_inspectFile_155 X ih hP hD hS (lv_sub hl [1, 2, 3, 4, 0, 5] rfl) h
        · have h := if_f hc h
          refine lv_iconst (v := 1) hx hb d_Ins_inspectFile_150 (by decide) ?_
          refine lv_goto (tgt := 155) hx hb d_Ins_inspectFile_151 (by decide) ?_
          exact v_Ins_inspectFile_155 X ih hP hD hS (lv_sub hl [1, 2, 3, 4, 0, 5] rfl) h
set_option maxHeartbeats 4000000 in
set_option maxRecDepth 100000 in
theorem v_Ins_inspectFile_111 {p : Program} {l : Launch} {e : Env} {s : State} {m : MethodId} {args : Array Value} {below : List Frame} {meth : Method} {c : Code} {D : va_G} {ad : Nat → Nat} {ca : Nat → ClassId} {A : Nat → Prop} {FU : Nat} {q : St} (X : FX p s m meth c prog_6_method_9_code 8 none "FlashFiles$Inspector" D (tyF ca) A) {y2 : Int32} {y4 : Int32} {z0 : Int32} {g : St} {H : Heap} {locs : List Loc} {ls : Array Slot} (hP : va_P D cls (wF ad ca g) H) (hD : va_D A (wF ad ca g)) (hS : va_S A s.heap H locs) (hl : lv_has ls 8 [(0, .ref (ad 10)), (2, .int y2), (4, .int y4)]) (h : Ins_inspectFile_b111 FU y2 y4 z0 g = some q) : W p l e (rmN 3) s m args below meth c H locs 0 0 (MQ below (fxQv D (tyF ca) A (wF ad ca q)) args s 0 0 A) (F0 m 111 ls [.int z0]) := by
  have hx := X.1
  have hb := X.2.1
  unfold Ins_inspectFile_b111 at h
  refine lv_istore hx hb d_Ins_inspectFile_111 hl (by decide) rfl (fun ls hl => ?_)
  have hl : lv_has ls 8 [(5, .int z0), (0, .ref (ad 10)), (2, .int y2), (4, .int y4)] := hl
  refine lv_iconst (v := 0) hx hb d_Ins_inspectFile_113 (by decide) ?_
  refine lv_istore hx hb d_Ins_inspectFile_114 hl (by decide) rfl (fun ls hl => ?_)
  have hl : lv_has ls 8 [(6, .int (0 : Int32)), (5, .int z0), (0, .ref (ad 10)), (2, .int y2), (4, .int y4)] := hl
  refine lv_iconst (v := 0) hx hb d_Ins_inspectFile_116 (by decide) ?_
  refine lv_istore hx hb d_Ins_inspectFile_117 hl (by decide) rfl (fun ls hl => ?_)
  have hl : lv_has ls 8 [(7, .int (0 : Int32)), (6, .int (0 : Int32)), (5, .int z0), (0, .ref (ad 10)), (2, .int y2), (4, .int y4)] := hl
  exact v_Ins_inspectFile_119 X  _ _ _ _ _ _ _ _ _ _ hP hD hS (lv_sub hl [3, 4, 5, 2, 1, 0] rfl) h
set_option maxHeartbeats 4000000 in
set_option maxRecDepth 100000 in
theorem v_Ins_inspectFile_78 {p : Program} {l : Launch} {e : Env} {s : State} {m : MethodId} {args : Array Value} {below : List Frame} {meth : Method} {c : Code} {D : va_G} {ad : Nat → Nat} {ca : Nat → ClassId} {A : Nat → Prop} {FU : Nat} {q : St} (X : FX p s m meth c prog_6_method_9_code 8 none "FlashFiles$Inspector" D (tyF ca) A) {k6 : Int32 → Int32 → Int32 → Int32 → St → Option (St)} (hk6 : ∀ (y1 y2 y3 y4 : Int32) (g : St) (H : Heap) (locs : List Loc) (ls : Array Slot), va_P D cls (wF ad ca g) H → va_D A (wF ad ca g) → va_S A s.heap H locs → lv_has ls 8 [(0, .ref (ad 10)), (1, .int y1), (2, .int y2), (3, .int y3), (4, .int y4)] → k6 y1 y2 y3 y4 g = some q → W p l e (rmN 3) s m args below meth c H locs 0 0 (MQ below (fxQv D (tyF ca) A (wF ad ca q)) args s 0 0 A) (F0 m 6 ls [])) {y1 : Int32} {y2 : Int32} {y4 : Int32} {z0 : Int32} {z1 : Int32} {g : St} {H : Heap} {locs : List Loc} {ls : Array Slot} (hP : va_P D cls (wF ad ca g) H) (hD : va_D A (wF ad ca g)) (hS : va_S A s.heap H locs) (hl : lv_has ls 8 [(0, .ref (ad 10)), (1, .int y1), (2, .int y2), (4, .int y4)]) (h : Ins_inspectFile_b78 FU k6 y1 y2 y4 z0 z1 g = some q) : W p l e (rmN 3) s m args below meth c H locs 0 0 (MQ below (fxQv D (tyF ca) A (wF ad ca q)) args s 0 0 A) (F0 m 78 ls [.int z0, .int z1]) := by
  have hx := X.1
  have hb := X.2.1
  unfold Ins_inspectFile_b78 at h
  refine lv_ior hx hb d_Ins_inspectFile_78 ?_
  refine lv_istore_n hx hb d_Ins_inspectFile_79 rfl hl (by decide) rfl (fun ls hl => ?_)
  have hl : lv_has ls 8 [(3, .int (z1 ||| z0)), (0, .ref (ad 10)), (1, .int y1), (2, .int y2), (4, .int y4)] := hl
  refine lv_iinc (k := 4) (v := (y4 + (1 : Int32))) hx hb d_Ins_inspectFile_80 hl rfl (oi_1 _) (by decide) rfl (fun ls hl => ?_)
  have hl : lv_has ls 8 [(4, .int (y4 + (1 : Int32))), (3, .int (z1 ||| z0)), (0, .ref (ad 10)), (1, .int y1), (2, .int y2)] := hl
  refine lv_goto (tgt := 6) hx hb d_Ins_inspectFile_83 (by decide) ?_
  exact hk6 _ _ _ _ _ _ _ _ hP hD hS (lv_sub hl [2, 3, 4, 1, 0] rfl) h
set_option maxHeartbeats 4000000 in
set_option maxRecDepth 100000 in
theorem v_Ins_inspectFile_64 {p : Program} {l : Launch} {e : Env} {s : State} {m : MethodId} {args : Array Value} {below : List Frame} {meth : Method} {c : Code} {D : va_G} {ad : Nat → Nat} {ca : Nat → ClassId} {A : Nat → Prop} {FU : Nat} {q : St} (X : FX p s m meth c prog_6_method_9_code 8 none "FlashFiles$Inspector" D (tyF ca) A) {k6 : Int32 → Int32 → Int32 → Int32 → St → Option (St)} (hk6 : ∀ (y1 y2 y3 y4 : Int32) (g : St) (H : Heap) (locs : List Loc) (ls : Array Slot), va_P D cls (wF ad ca g) H → va_D A (wF ad ca g) → va_S A s.heap H locs → lv_has ls 8 [(0, .ref (ad 10)), (1, .int y1), (2, .int y2), (3, .int y3), (4, .int y4)] → k6 y1 y2 y3 y4 g = some q → W p l e (rmN 3) s m args below meth c H locs 0 0 (MQ below (fxQv D (tyF ca) A (wF ad ca q)) args s 0 0 A) (F0 m 6 ls [])) {y1 : Int32} {y2 : Int32} {y3 : Int32} {y4 : Int32} {y5 : Int32} {z0 : Int32} {g : St} {H : Heap} {locs : List Loc} {ls : Array Slot} (hP : va_P D cls (wF ad ca g) H) (hD : va_D A (wF ad ca g)) (hS : va_S A s.heap H locs) (hl : lv_has ls 8 [(0, .ref (ad 10)), (1, .int y1), (2, .int y2), (3, .int y3), (4, .int y4), (5, .int y5)]) (h : Ins_inspectFile_b64 FU k6 y1 y2 y3 y4 y5 z0 g = some q) : W p l e (rmN 3) s m args below meth c H locs 0 0 (MQ below (fxQv D (tyF ca) A (wF ad ca q)) args s 0 0 A) (F0 m 64 ls [.int z0, .ref (ad 10)]) := by
  have hx := X.1
  have hb := X.2.1
  unfold Ins_inspectFile_b64 at h
  obtain ⟨p8, e1, h⟩ := bd_some h
  refine fx_v X (fx_runV (As := [.int z0]) X (m_Ins_expect e1 _) hP hD kv_Ins_92 ⟨Nat.le_of_ble_eq_true rfl, Nat.le_of_ble_eq_true rfl⟩ 10 rfl rfl rfl hl.1 rfl (Nat.le_of_ble_eq_true rfl) d_Ins_inspectFile_64) hD hS (fun H locs hP hD hS => ?_)
  refine lv_iload_n hx hb d_Ins_inspectFile_67 rfl (lv_at hl 3 rfl) ?_
  refine lv_iload hx hb d_Ins_inspectFile_68 (lv_at hl 5 rfl) ?_
  refine lv_if_eq (tgt := 77) hx hb d_Ins_inspectFile_70 (by decide) (fun hc => ?_) (fun hc => ?_)
  · have h := if_t hc h
    refine lv_iconst (v := 0) hx hb d_Ins_inspectFile_77 (by decide) ?_
    exact v_Ins_inspectFile_78 X hk6 hP hD hS (lv_sub hl [0, 1, 2, 4] rfl) h
  · have h := if_f hc h
    refine lv_iconst (v := 1) hx hb d_Ins_inspectFile_73 (by decide) ?_
    refine lv_goto (tgt := 78) hx hb d_Ins_inspectFile_74 (by decide) ?_
    exact v_Ins_inspectFile_78 X hk6 hP hD hS (lv_sub hl [0, 1, 2, 4] rfl) h
set_option maxHeartbeats 4000000 in
set_option maxRecDepth 100000 in
theorem v_Ins_inspectFile_59 {p : Program} {l : Launch} {e : Env} {s : State} {m : MethodId} {args : Array Value} {below : List Frame} {meth : Method} {c : Code} {D : va_G} {ad : Nat → Nat} {ca : Nat → ClassId} {A : Nat → Prop} {FU : Nat} {q : St} (X : FX p s m meth c prog_6_method_9_code 8 none "FlashFiles$Inspector" D (tyF ca) A) {k6 : Int32 → Int32 → Int32 → Int32 → St → Option (St)} (hk6 : ∀ (y1 y2 y3 y4 : Int32) (g : St) (H : Heap) (locs : List Loc) (ls : Array Slot), va_P D cls (wF ad ca g) H → va_D A (wF ad ca g) → va_S A s.heap H locs → lv_has ls 8 [(0, .ref (ad 10)), (1, .int y1), (2, .int y2), (3, .int y3), (4, .int y4)] → k6 y1 y2 y3 y4 g = some q → W p l e (rmN 3) s m args below meth c H locs 0 0 (MQ below (fxQv D (tyF ca) A (wF ad ca q)) args s 0 0 A) (F0 m 6 ls [])) {y1 : Int32} {y2 : Int32} {y3 : Int32} {y4 : Int32} {y5 : Int32} {g : St} {H : Heap} {locs : List Loc} {ls : Array Slot} (hP : va_P D cls (wF ad ca g) H) (hD : va_D A (wF ad ca g)) (hS : va_S A s.heap H locs) (hl : lv_has ls 8 [(0, .ref (ad 10)), (1, .int y1), (2, .int y2), (3, .int y3), (4, .int y4), (5, .int y5)]) (h : Ins_inspectFile_b59 FU k6 y1 y2 y3 y4 y5 g = some q) : W p l e (rmN 3) s m args below meth c H locs 0 0 (MQ below (fxQv D (tyF ca) A (wF ad ca q)) args s 0 0 A) (F0 m 59 ls [.ref (ad 10)]) := by
  have hx := X.1
  have hb := X.2.1
  unfold Ins_inspectFile_b59 at h
  refine lv_iconst (v := 1) hx hb d_Ins_inspectFile_59 (by decide) ?_
  refine lv_goto (tgt := 64) hx hb d_Ins_inspectFile_60 (by decide) ?_
  exact v_Ins_inspectFile_64 X hk6 hP hD hS (lv_sub hl [0, 1, 2, 3, 4, 5] rfl) h
set_option maxHeartbeats 4000000 in
set_option maxRecDepth 100000 in
theorem v_Ins_inspectFile_6 {p : Program} {l : Launch} {e : Env} {s : State} {m : MethodId} {args : Array Value} {below : List Frame} {meth : Method} {c : Code} {D : va_G} {ad : Nat → Nat} {ca : Nat → ClassId} {A : Nat → Prop} {FU : Nat} {q : St} (X : FX p s m meth c prog_6_method_9_code 8 none "FlashFiles$Inspector" D (tyF ca) A) : ∀ (n : Nat), ∀ (y1 y2 y3 y4 : Int32) (g : St) (H : Heap) (locs : List Loc) (ls : Array Slot), va_P D cls (wF ad ca g) H → va_D A (wF ad ca g) → va_S A s.heap H locs → lv_has ls 8 [(0, .ref (ad 10)), (1, .int y1), (2, .int y2), (3, .int y3), (4, .int y4)] → Ins_inspectFile_b6 FU n y1 y2 y3 y4 g = some q → W p l e (rmN 3) s m args below meth c H locs 0 0 (MQ below (fxQv D (tyF ca) A (wF ad ca q)) args s 0 0 A) (F0 m 6 ls []) := by
  have hx := X.1
  have hb := X.2.1
  intro n
  induction n with
  | zero =>
    intro y1 y2 y3 y4 g H locs ls hP hD hS hl h
    cases h
  | succ n ih =>
    intro y1 y2 y3 y4 g H locs ls hP hD hS hl h
    have h := h
    rw [Ins_inspectFile_b6.eq_2] at h
    refine lv_iload hx hb d_Ins_inspectFile_6 (lv_at hl 4 rfl) ?_
    refine lv_bipush (v := 28) hx hb d_Ins_inspectFile_8 (by decide) ?_
    refine lv_icmp_gt (tgt := 86) hx hb d_Ins_inspectFile_10 (by decide) (fun hc => ?_) (fun hc => ?_)
    · have h := if_t hc h
      refine lv_aload_n hx hb d_Ins_inspectFile_86 rfl (lv_at hl 0 rfl) ?_
      refine gF_ins_device X hP d_Ins_inspectFile_87 ?_
      refine lv_iload_n hx hb d_Ins_inspectFile_90 rfl (lv_at hl 2 rfl) ?_
      refine lv_iconst (v := 1) hx hb d_Ins_inspectFile_91 (by decide) ?_
      obtain ⟨v9, e1, h⟩ := bd_some h
      refine fx_i X (fx_runV (As := [.int y2, .int (1 : Int32)]) X (m_Dev_word e1 _) hP hD kv_Ins_103 ⟨Nat.le_of_ble_eq_true rfl, Nat.le_of_ble_eq_true rfl⟩ 3 rfl rfl rfl hl.1 rfl (Nat.le_of_ble_eq_true rfl) d_Ins_inspectFile_92) hD hS (fun H locs hP hD hS => ?_)
      refine lv_istore hx hb d_Ins_inspectFile_95 hl (by decide) rfl (fun ls hl => ?_)
      have hl : lv_has ls 8 [(4, .int v9), (0, .ref (ad 10)), (1, .int y1), (2, .int y2), (3, .int y3)] := hl
      refine lv_iload_n hx hb d_Ins_inspectFile_97 rfl (lv_at hl 4 rfl) ?_
      refine lv_if_eq (tgt := 109) hx hb d_Ins_inspectFile_98 (by decide) (fun hc => ?_) (fun hc => ?_)
      · have h := if_t hc h
        refine lv_bipush (v := 20) hx hb d_Ins_inspectFile_109 (by decide) ?_
        exact v_Ins_inspectFile_111 X  hP hD hS (lv_sub hl [1, 3, 0] rfl) h
      · have h := if_f hc h
        refine lv_ldc (v := 100000) hx hb X.2.2.2.2.2.1 (X.2.2.2.2.2.2.1.use q7_100) d_Ins_inspectFile_101 ?_
        obtain ⟨v10, e1, h⟩ := bd_some h
        refine fx_i X (fx_runN X (m_FF_blocksBegun e1 _) (As := [.int (100000 : Int32)]) hP hD kn_Ins_136 ⟨Nat.le_of_ble_eq_true rfl, Nat.le_of_ble_eq_true rfl⟩ rfl hl.1 rfl (Nat.le_of_ble_eq_true rfl) d_Ins_inspectFile_103) hD hS (fun H locs hP hD hS => ?_)
        refine lv_goto (tgt := 111) hx hb d_Ins_inspectFile_106 (by decide) ?_
        exact v_Ins_inspectFile_111 X  hP hD hS (lv_sub hl [1, 3, 0] rfl) h
    · have h := if_f hc h
      refine lv_aload_n hx hb d_Ins_inspectFile_13 rfl (lv_at hl 0 rfl) ?_
      refine gF_ins_device X hP d_Ins_inspectFile_14 ?_
      refine lv_iload_n hx hb d_Ins_inspectFile_17 rfl (lv_at hl 2 rfl) ?_
      refine lv_iload hx hb d_Ins_inspectFile_18 (lv_at hl 4 rfl) ?_
      obtain ⟨v11, e1, h⟩ := bd_some h
      refine fx_i X (fx_runV (As := [.int y2, .int y4]) X (m_Dev_word e1 _) hP hD kv_Ins_103 ⟨Nat.le_of_ble_eq_true rfl, Nat.le_of_ble_eq_true rfl⟩ 3 rfl rfl rfl hl.1 rfl (Nat.le_of_ble_eq_true rfl) d_Ins_inspectFile_20) hD hS (fun H locs hP hD hS => ?_)
      refine lv_istore hx hb d_Ins_inspectFile_23 hl (by decide) rfl (fun ls hl => ?_)
      have hl : lv_has ls 8 [(5, .int v11), (0, .ref (ad 10)), (1, .int y1), (2, .int y2), (3, .int y3), (4, .int y4)] := hl
      refine lv_aload_n hx hb d_Ins_inspectFile_25 rfl (lv_at hl 1 rfl) ?_
      refine lv_iload hx hb d_Ins_inspectFile_26 (lv_at hl 0 rfl) ?_
      obtain ⟨p12, e1, h⟩ := bd_some h
      refine fx_v X (fx_runV (As := [.int v11]) X (m_Ins_lead e1 _) hP hD kv_Ins_124 ⟨Nat.le_of_ble_eq_true rfl, Nat.le_of_ble_eq_true rfl⟩ 10 rfl rfl rfl hl.1 rfl (Nat.le_of_ble_eq_true rfl) d_Ins_inspectFile_28) hD hS (fun H locs hP hD hS => ?_)
      refine lv_aload_n hx hb d_Ins_inspectFile_31 rfl (lv_at hl 1 rfl) ?_
      refine lv_iload hx hb d_Ins_inspectFile_32 (lv_at hl 0 rfl) ?_
      refine lv_if_eq (tgt := 59) hx hb d_Ins_inspectFile_34 (by decide) (fun hc => ?_) (fun hc => ?_)
      · have h := if_t hc h
        exact v_Ins_inspectFile_59 X ih hP hD hS (lv_sub hl [1, 2, 3, 4, 5, 0] rfl) h
      · have h := if_f hc h
        refine lv_aload_n hx hb d_Ins_inspectFile_37 rfl (lv_at hl 1 rfl) ?_
        refine gF_ins_device X hP d_Ins_inspectFile_38 ?_
        refine lv_aload_n hx hb d_Ins_inspectFile_41 rfl (lv_at hl 1 rfl) ?_
        refine gF_ins_table X hP d_Ins_inspectFile_42 ?_
        refine lv_iload hx hb d_Ins_inspectFile_45 (lv_at hl 0 rfl) ?_
        obtain ⟨v13, e1, h⟩ := bd_some h
        refine fx_i X (fx_runV (As := [.int v11]) X (m_Tab_placeOf e1 _) hP hD kv_Ins_53 ⟨Nat.le_of_ble_eq_true rfl, Nat.le_of_ble_eq_true rfl⟩ 4 rfl rfl rfl hl.1 rfl (Nat.le_of_ble_eq_true rfl) d_Ins_inspectFile_47) hD hS (fun H locs hP hD hS => ?_)
        refine lv_bipush (v := 61) hx hb d_Ins_inspectFile_50 (by decide) ?_
        obtain ⟨v14, e1, h⟩ := bd_some h
        refine fx_i X (fx_runV (As := [.int v13, .int (61 : Int32)]) X (m_Dev_word e1 _) hP hD kv_Ins_103 ⟨Nat.le_of_ble_eq_true rfl, Nat.le_of_ble_eq_true rfl⟩ 3 rfl rfl rfl hl.1 rfl (Nat.le_of_ble_eq_true rfl) d_Ins_inspectFile_52) hD hS (fun H locs hP hD hS => ?_)
        refine lv_iload_n hx hb d_Ins_inspectFile_55 rfl (lv_at hl 2 rfl) ?_
        refine lv_icmp_ne (tgt := 63) hx hb d_Ins_inspectFile_56 (by decide) (fun hc => ?_) (fun hc => ?_)
        · have h := if_f hc h
          refine lv_iconst (v := 0) hx hb d_Ins_inspectFile_63 (by decide) ?_
          exact v_Ins_inspectFile_64 X ih hP hD hS (lv_sub hl [1, 2, 3, 4, 5, 0] rfl) h
        · have h := if_t hc h
          exact v_Ins_inspectFile_59 X ih hP hD hS (lv_sub hl [1, 2, 3, 4, 5, 0] rfl) h
set_option maxHeartbeats 4000000 in
set_option maxRecDepth 100000 in
theorem m_Ins_inspectFile {l : Launch} {D : va_G} {ad : Nat → Nat} {ca : Nat → ClassId} {FU : Nat} {x1 : Int32} {x2 : Int32} {g : St} {q : St} (h : Ins_inspectFile FU x1 x2 g = some q) : CV l ⟨"FlashFiles$Inspector", "inspectFile", "(II)V"⟩ prog_6_method_9_code 8 3 D (tyF ca) (wF ad ca g) [.ref (ad 10), .int x1, .int x2] (wF ad ca q) := by
  intro sz
  refine Met.fx (Qc := fun A => fxQv D (tyF ca) A (wF ad ca q)) (by decide) (Nat.le_of_ble_eq_true rfl) ?_
  intro p e s m below meth c A ls X hP hD hl
  have hl : lv_has ls 8 [(0, .ref (ad 10)), (1, .int x1), (2, .int x2)] := hl
  have hS : va_S A s.heap s.heap [] := va_S.rf
  have hx := X.1
  have hb := X.2.1
  unfold Ins_inspectFile at h
  refine lv_iconst (v := 0) hx hb d_Ins_inspectFile_0 (by decide) ?_
  refine lv_istore_n hx hb d_Ins_inspectFile_1 rfl hl (by decide) rfl (fun ls hl => ?_)
  have hl : lv_has ls 8 [(3, .int (0 : Int32)), (0, .ref (ad 10)), (1, .int x1), (2, .int x2)] := hl
  refine lv_bipush (v := 26) hx hb d_Ins_inspectFile_2 (by decide) ?_
  refine lv_istore hx hb d_Ins_inspectFile_4 hl (by decide) rfl (fun ls hl => ?_)
  have hl : lv_has ls 8 [(4, .int (26 : Int32)), (3, .int (0 : Int32)), (0, .ref (ad 10)), (1, .int x1), (2, .int x2)] := hl
  exact v_Ins_inspectFile_6 X  _ _ _ _ _ _ _ _ _ hP hD hS (lv_sub hl [2, 3, 4, 1, 0] rfl) h
theorem d_Ins_inspectIndirect_0 : decode prog_6_method_7_code 0 = .ok (.iconst 0, 1) := by decide +kernel
theorem d_Ins_inspectIndirect_1 : decode prog_6_method_7_code 1 = .ok (.istore_n 3, 1) := by decide +kernel
theorem d_Ins_inspectIndirect_2 : decode prog_6_method_7_code 2 = .ok (.iload_n 3, 1) := by decide +kernel
theorem d_Ins_inspectIndirect_3 : decode prog_6_method_7_code 3 = .ok (.bipush 56, 2) := by decide +kernel
theorem d_Ins_inspectIndirect_5 : decode prog_6_method_7_code 5 = .ok (.if_icmp .ge 62, 3) := by decide +kernel
theorem d_Ins_inspectIndirect_8 : decode prog_6_method_7_code 8 = .ok (.aload_n 0, 1) := by decide +kernel
theorem d_Ins_inspectIndirect_9 : decode prog_6_method_7_code 9 = .ok (.getfield 9, 3) := by decide +kernel
theorem d_Ins_inspectIndirect_12 : decode prog_6_method_7_code 12 = .ok (.iload_n 1, 1) := by decide +kernel
theorem d_Ins_inspectIndirect_13 : decode prog_6_method_7_code 13 = .ok (.iload_n 3, 1) := by decide +kernel
theorem d_Ins_inspectIndirect_14 : decode prog_6_method_7_code 14 = .ok (.invokevirtual 103, 3) := by decide +kernel
theorem d_Ins_inspectIndirect_17 : decode prog_6_method_7_code 17 = .ok (.istore 4, 2) := by decide +kernel
theorem d_Ins_inspectIndirect_19 : decode prog_6_method_7_code 19 = .ok (.aload_n 0, 1) := by decide +kernel
theorem d_Ins_inspectIndirect_20 : decode prog_6_method_7_code 20 = .ok (.iload 4, 2) := by decide +kernel
theorem d_Ins_inspectIndirect_22 : decode prog_6_method_7_code 22 = .ok (.invokevirtual 124, 3) := by decide +kernel
theorem d_Ins_inspectIndirect_25 : decode prog_6_method_7_code 25 = .ok (.aload_n 0, 1) := by decide +kernel
theorem d_Ins_inspectIndirect_26 : decode prog_6_method_7_code 26 = .ok (.iload 4, 2) := by decide +kernel
theorem d_Ins_inspectIndirect_28 : decode prog_6_method_7_code 28 = .ok (.ifCond .eq 25, 3) := by decide +kernel
theorem d_Ins_inspectIndirect_31 : decode prog_6_method_7_code 31 = .ok (.aload_n 0, 1) := by decide +kernel
theorem d_Ins_inspectIndirect_32 : decode prog_6_method_7_code 32 = .ok (.getfield 9, 3) := by decide +kernel
theorem d_Ins_inspectIndirect_35 : decode prog_6_method_7_code 35 = .ok (.aload_n 0, 1) := by decide +kernel
theorem d_Ins_inspectIndirect_36 : decode prog_6_method_7_code 36 = .ok (.getfield 15, 3) := by decide +kernel
theorem d_Ins_inspectIndirect_39 : decode prog_6_method_7_code 39 = .ok (.iload 4, 2) := by decide +kernel
theorem d_Ins_inspectIndirect_41 : decode prog_6_method_7_code 41 = .ok (.invokevirtual 53, 3) := by decide +kernel
theorem d_Ins_inspectIndirect_44 : decode prog_6_method_7_code 44 = .ok (.bipush 61, 2) := by decide +kernel
theorem d_Ins_inspectIndirect_46 : decode prog_6_method_7_code 46 = .ok (.invokevirtual 103, 3) := by decide +kernel
theorem d_Ins_inspectIndirect_49 : decode prog_6_method_7_code 49 = .ok (.iload_n 2, 1) := by decide +kernel
theorem d_Ins_inspectIndirect_50 : decode prog_6_method_7_code 50 = .ok (.if_icmp .ne 7, 3) := by decide +kernel
theorem d_Ins_inspectIndirect_53 : decode prog_6_method_7_code 53 = .ok (.iconst 1, 1) := by decide +kernel
theorem d_Ins_inspectIndirect_54 : decode prog_6_method_7_code 54 = .ok (.goto 4, 3) := by decide +kernel
theorem d_Ins_inspectIndirect_57 : decode prog_6_method_7_code 57 = .ok (.iconst 0, 1) := by decide +kernel
theorem d_Ins_inspectIndirect_58 : decode prog_6_method_7_code 58 = .ok (.invokevirtual 92, 3) := by decide +kernel
theorem d_Ins_inspectIndirect_61 : decode prog_6_method_7_code 61 = .ok (.iinc 3 1, 3) := by decide +kernel
theorem d_Ins_inspectIndirect_64 : decode prog_6_method_7_code 64 = .ok (.goto (-62), 3) := by decide +kernel
theorem d_Ins_inspectIndirect_67 : decode prog_6_method_7_code 67 = .ok (.return_, 1) := by decide +kernel
set_option maxHeartbeats 4000000 in
set_option maxRecDepth 100000 in
theorem v_Ins_inspectIndirect_58 {p : Program} {l : Launch} {e : Env} {s : State} {m : MethodId} {args : Array Value} {below : List Frame} {meth : Method} {c : Code} {D : va_G} {ad : Nat → Nat} {ca : Nat → ClassId} {A : Nat → Prop} {FU : Nat} {q : St} (X : FX p s m meth c prog_6_method_7_code 5 none "FlashFiles$Inspector" D (tyF ca) A) {k2 : Int32 → Int32 → Int32 → St → Option (St)} (hk2 : ∀ (y1 y2 y3 : Int32) (g : St) (H : Heap) (locs : List Loc) (ls : Array Slot), va_P D cls (wF ad ca g) H → va_D A (wF ad ca g) → va_S A s.heap H locs → lv_has ls 5 [(0, .ref (ad 10)), (1, .int y1), (2, .int y2), (3, .int y3)] → k2 y1 y2 y3 g = some q → W p l e (rmN 3) s m args below meth c H locs 0 0 (MQ below (fxQv D (tyF ca) A (wF ad ca q)) args s 0 0 A) (F0 m 2 ls [])) {y1 : Int32} {y2 : Int32} {y3 : Int32} {z0 : Int32} {g : St} {H : Heap} {locs : List Loc} {ls : Array Slot} (hP : va_P D cls (wF ad ca g) H) (hD : va_D A (wF ad ca g)) (hS : va_S A s.heap H locs) (hl : lv_has ls 5 [(0, .ref (ad 10)), (1, .int y1), (2, .int y2), (3, .int y3)]) (h : Ins_inspectIndirect_b58 FU k2 y1 y2 y3 z0 g = some q) : W p l e (rmN 3) s m args below meth c H locs 0 0 (MQ below (fxQv D (tyF ca) A (wF ad ca q)) args s 0 0 A) (F0 m 58 ls [.int z0, .ref (ad 10)]) := by
  have hx := X.1
  have hb := X.2.1
  unfold Ins_inspectIndirect_b58 at h
  obtain ⟨p1, e1, h⟩ := bd_some h
  refine fx_v X (fx_runV (As := [.int z0]) X (m_Ins_expect e1 _) hP hD kv_Ins_92 ⟨Nat.le_of_ble_eq_true rfl, Nat.le_of_ble_eq_true rfl⟩ 10 rfl rfl rfl hl.1 rfl (Nat.le_of_ble_eq_true rfl) d_Ins_inspectIndirect_58) hD hS (fun H locs hP hD hS => ?_)
  refine lv_iinc (k := 3) (v := (y3 + (1 : Int32))) hx hb d_Ins_inspectIndirect_61 hl rfl (oi_1 _) (by decide) rfl (fun ls hl => ?_)
  have hl : lv_has ls 5 [(3, .int (y3 + (1 : Int32))), (0, .ref (ad 10)), (1, .int y1), (2, .int y2)] := hl
  refine lv_goto (tgt := 2) hx hb d_Ins_inspectIndirect_64 (by decide) ?_
  exact hk2 _ _ _ _ _ _ _ hP hD hS (lv_sub hl [1, 2, 3, 0] rfl) h
set_option maxHeartbeats 4000000 in
set_option maxRecDepth 100000 in
theorem v_Ins_inspectIndirect_53 {p : Program} {l : Launch} {e : Env} {s : State} {m : MethodId} {args : Array Value} {below : List Frame} {meth : Method} {c : Code} {D : va_G} {ad : Nat → Nat} {ca : Nat → ClassId} {A : Nat → Prop} {FU : Nat} {q : St} (X : FX p s m meth c prog_6_method_7_code 5 none "FlashFiles$Inspector" D (tyF ca) A) {k2 : Int32 → Int32 → Int32 → St → Option (St)} (hk2 : ∀ (y1 y2 y3 : Int32) (g : St) (H : Heap) (locs : List Loc) (ls : Array Slot), va_P D cls (wF ad ca g) H → va_D A (wF ad ca g) → va_S A s.heap H locs → lv_has ls 5 [(0, .ref (ad 10)), (1, .int y1), (2, .int y2), (3, .int y3)] → k2 y1 y2 y3 g = some q → W p l e (rmN 3) s m args below meth c H locs 0 0 (MQ below (fxQv D (tyF ca) A (wF ad ca q)) args s 0 0 A) (F0 m 2 ls [])) {y1 : Int32} {y2 : Int32} {y3 : Int32} {g : St} {H : Heap} {locs : List Loc} {ls : Array Slot} (hP : va_P D cls (wF ad ca g) H) (hD : va_D A (wF ad ca g)) (hS : va_S A s.heap H locs) (hl : lv_has ls 5 [(0, .ref (ad 10)), (1, .int y1), (2, .int y2), (3, .int y3)]) (h : Ins_inspectIndirect_b53 FU k2 y1 y2 y3 g = some q) : W p l e (rmN 3) s m args below meth c H locs 0 0 (MQ below (fxQv D (tyF ca) A (wF ad ca q)) args s 0 0 A) (F0 m 53 ls [.ref (ad 10)]) := by
  have hx := X.1
  have hb := X.2.1
  unfold Ins_inspectIndirect_b53 at h
  refine lv_iconst (v := 1) hx hb d_Ins_inspectIndirect_53 (by decide) ?_
  refine lv_goto (tgt := 58) hx hb d_Ins_inspectIndirect_54 (by decide) ?_
  exact v_Ins_inspectIndirect_58 X hk2 hP hD hS (lv_sub hl [0, 1, 2, 3] rfl) h
set_option maxHeartbeats 4000000 in
set_option maxRecDepth 100000 in
theorem v_Ins_inspectIndirect_2 {p : Program} {l : Launch} {e : Env} {s : State} {m : MethodId} {args : Array Value} {below : List Frame} {meth : Method} {c : Code} {D : va_G} {ad : Nat → Nat} {ca : Nat → ClassId} {A : Nat → Prop} {FU : Nat} {q : St} (X : FX p s m meth c prog_6_method_7_code 5 none "FlashFiles$Inspector" D (tyF ca) A) : ∀ (n : Nat), ∀ (y1 y2 y3 : Int32) (g : St) (H : Heap) (locs : List Loc) (ls : Array Slot), va_P D cls (wF ad ca g) H → va_D A (wF ad ca g) → va_S A s.heap H locs → lv_has ls 5 [(0, .ref (ad 10)), (1, .int y1), (2, .int y2), (3, .int y3)] → Ins_inspectIndirect_b2 FU n y1 y2 y3 g = some q → W p l e (rmN 3) s m args below meth c H locs 0 0 (MQ below (fxQv D (tyF ca) A (wF ad ca q)) args s 0 0 A) (F0 m 2 ls []) := by
  have hx := X.1
  have hb := X.2.1
  intro n
  induction n with
  | zero =>
    intro y1 y2 y3 g H locs ls hP hD hS hl h
    cases h
  | succ n ih =>
    intro y1 y2 y3 g H locs ls hP hD hS hl h
    have h := h
    rw [Ins_inspectIndirect_b2.eq_2] at h
    refine lv_iload_n hx hb d_Ins_inspectIndirect_2 rfl (lv_at hl 3 rfl) ?_
    refine lv_bipush (v := 56) hx hb d_Ins_inspectIndirect_3 (by decide) ?_
    refine lv_icmp_ge (tgt := 67) hx hb d_Ins_inspectIndirect_5 (by decide) (fun hc => ?_) (fun hc => ?_)
    · have h := if_t hc h
      cases h
      exact fx_vret X hP hD hS d_Ins_inspectIndirect_67
    · have h := if_f hc h
      refine lv_aload_n hx hb d_Ins_inspectIndirect_8 rfl (lv_at hl 0 rfl) ?_
      refine gF_ins_device X hP d_Ins_inspectIndirect_9 ?_
      refine lv_iload_n hx hb d_Ins_inspectIndirect_12 rfl (lv_at hl 1 rfl) ?_
      refine lv_iload_n hx hb d_Ins_inspectIndirect_13 rfl (lv_at hl 3 rfl) ?_
      obtain ⟨v2, e1, h⟩ := bd_some h
      refine fx_i X (fx_runV (As := [.int y1, .int y3]) X (m_Dev_word e1 _) hP hD kv_Ins_103 ⟨Nat.le_of_ble_eq_true rfl, Nat.le_of_ble_eq_true rfl⟩ 3 rfl rfl rfl hl.1 rfl (Nat.le_of_ble_eq_true rfl) d_Ins_inspectIndirect_14) hD hS (fun H locs hP hD hS => ?_)
      refine lv_istore hx hb d_Ins_inspectIndirect_17 hl (by decide) rfl (fun ls hl => ?_)
      have hl : lv_has ls 5 [(4, .int v2), (0, .ref (ad 10)), (1, .int y1), (2, .int y2), (3, .int y3)] := hl
      refine lv_aload_n hx hb d_Ins_inspectIndirect_19 rfl (lv_at hl 1 rfl) ?_
      refine lv_iload hx hb d_Ins_inspectIndirect_20 (lv_at hl 0 rfl) ?_
      obtain ⟨p3, e1, h⟩ := bd_some h
      refine fx_v X (fx_runV (As := [.int v2]) X (m_Ins_lead e1 _) hP hD kv_Ins_124 ⟨Nat.le_of_ble_eq_true rfl, Nat.le_of_ble_eq_true rfl⟩ 10 rfl rfl rfl hl.1 rfl (Nat.le_of_ble_eq_true rfl) d_Ins_inspectIndirect_22) hD hS (fun H locs hP hD hS => ?_)
      refine lv_aload_n hx hb d_Ins_inspectIndirect_25 rfl (lv_at hl 1 rfl) ?_
      refine lv_iload hx hb d_Ins_inspectIndirect_26 (lv_at hl 0 rfl) ?_
      refine lv_if_eq (tgt := 53) hx hb d_Ins_inspectIndirect_28 (by decide) (fun hc => ?_) (fun hc => ?_)
      · have h := if_t hc h
        exact v_Ins_inspectIndirect_53 X ih hP hD hS (lv_sub hl [1, 2, 3, 4] rfl) h
      · have h := if_f hc h
        refine lv_aload_n hx hb d_Ins_inspectIndirect_31 rfl (lv_at hl 1 rfl) ?_
        refine gF_ins_device X hP d_Ins_inspectIndirect_32 ?_
        refine lv_aload_n hx hb d_Ins_inspectIndirect_35 rfl (lv_at hl 1 rfl) ?_
        refine gF_ins_table X hP d_Ins_inspectIndirect_36 ?_
        refine lv_iload hx hb d_Ins_inspectIndirect_39 (lv_at hl 0 rfl) ?_
        obtain ⟨v4, e1, h⟩ := bd_some h
        refine fx_i X (fx_runV (As := [.int v2]) X (m_Tab_placeOf e1 _) hP hD kv_Ins_53 ⟨Nat.le_of_ble_eq_true rfl, Nat.le_of_ble_eq_true rfl⟩ 4 rfl rfl rfl hl.1 rfl (Nat.le_of_ble_eq_true rfl) d_Ins_inspectIndirect_41) hD hS (fun H locs hP hD hS => ?_)
        refine lv_bipush (v := 61) hx hb d_Ins_inspectIndirect_44 (by decide) ?_
        obtain ⟨v5, e1, h⟩ := bd_some h
        refine fx_i X (fx_runV (As := [.int v4, .int (61 : Int32)]) X (m_Dev_word e1 _) hP hD kv_Ins_103 ⟨Nat.le_of_ble_eq_true rfl, Nat.le_of_ble_eq_true rfl⟩ 3 rfl rfl rfl hl.1 rfl (Nat.le_of_ble_eq_true rfl) d_Ins_inspectIndirect_46) hD hS (fun H locs hP hD hS => ?_)
        refine lv_iload_n hx hb d_Ins_inspectIndirect_49 rfl (lv_at hl 3 rfl) ?_
        refine lv_icmp_ne (tgt := 57) hx hb d_Ins_inspectIndirect_50 (by decide) (fun hc => ?_) (fun hc => ?_)
        · have h := if_f hc h
          refine lv_iconst (v := 0) hx hb d_Ins_inspectIndirect_57 (by decide) ?_
          exact v_Ins_inspectIndirect_58 X ih hP hD hS (lv_sub hl [1, 2, 3, 4] rfl) h
        · have h := if_t hc h
          exact v_Ins_inspectIndirect_53 X ih hP hD hS (lv_sub hl [1, 2, 3, 4] rfl) h
set_option maxHeartbeats 4000000 in
set_option maxRecDepth 100000 in
theorem m_Ins_inspectIndirect {l : Launch} {D : va_G} {ad : Nat → Nat} {ca : Nat → ClassId} {FU : Nat} {x1 : Int32} {x2 : Int32} {g : St} {q : St} (h : Ins_inspectIndirect FU x1 x2 g = some q) : CV l ⟨"FlashFiles$Inspector", "inspectIndirect", "(II)V"⟩ prog_6_method_7_code 5 3 D (tyF ca) (wF ad ca g) [.ref (ad 10), .int x1, .int x2] (wF ad ca q) := by
  intro sz
  refine Met.fx (Qc := fun A => fxQv D (tyF ca) A (wF ad ca q)) (by decide) (Nat.le_of_ble_eq_true rfl) ?_
  intro p e s m below meth c A ls X hP hD hl
  have hl : lv_has ls 5 [(0, .ref (ad 10)), (1, .int x1), (2, .int x2)] := hl
  have hS : va_S A s.heap s.heap [] := va_S.rf
  have hx := X.1
  have hb := X.2.1
  unfold Ins_inspectIndirect at h
  refine lv_iconst (v := 0) hx hb d_Ins_inspectIndirect_0 (by decide) ?_
  refine lv_istore_n hx hb d_Ins_inspectIndirect_1 rfl hl (by decide) rfl (fun ls hl => ?_)
  have hl : lv_has ls 5 [(3, .int (0 : Int32)), (0, .ref (ad 10)), (1, .int x1), (2, .int x2)] := hl
  exact v_Ins_inspectIndirect_2 X  _ _ _ _ _ _ _ _ hP hD hS (lv_sub hl [1, 2, 3, 0] rfl) h
theorem d_Ins_own_0 : decode prog_6_method_4_code 0 = .ok (.aload_n 0, 1) := by decide +kernel
theorem d_Ins_own_1 : decode prog_6_method_4_code 1 = .ok (.iload_n 1, 1) := by decide +kernel
theorem d_Ins_own_2 : decode prog_6_method_4_code 2 = .ok (.invokestatic 96, 3) := by decide +kernel
theorem d_Ins_own_5 : decode prog_6_method_4_code 5 = .ok (.ifCond .lt 18, 3) := by decide +kernel
theorem d_Ins_own_8 : decode prog_6_method_4_code 8 = .ok (.aload_n 0, 1) := by decide +kernel
theorem d_Ins_own_9 : decode prog_6_method_4_code 9 = .ok (.getfield 9, 3) := by decide +kernel
theorem d_Ins_own_12 : decode prog_6_method_4_code 12 = .ok (.iload_n 1, 1) := by decide +kernel
theorem d_Ins_own_13 : decode prog_6_method_4_code 13 = .ok (.invokevirtual 99, 3) := by decide +kernel
theorem d_Ins_own_16 : decode prog_6_method_4_code 16 = .ok (.ifCond .eq 7, 3) := by decide +kernel
theorem d_Ins_own_19 : decode prog_6_method_4_code 19 = .ok (.iconst 1, 1) := by decide +kernel
theorem d_Ins_own_20 : decode prog_6_method_4_code 20 = .ok (.goto 4, 3) := by decide +kernel
theorem d_Ins_own_23 : decode prog_6_method_4_code 23 = .ok (.iconst 0, 1) := by decide +kernel
theorem d_Ins_own_24 : decode prog_6_method_4_code 24 = .ok (.invokevirtual 92, 3) := by decide +kernel
theorem d_Ins_own_27 : decode prog_6_method_4_code 27 = .ok (.iload_n 1, 1) := by decide +kernel
theorem d_Ins_own_28 : decode prog_6_method_4_code 28 = .ok (.invokestatic 96, 3) := by decide +kernel
theorem d_Ins_own_31 : decode prog_6_method_4_code 31 = .ok (.ifCond .lt 28, 3) := by decide +kernel
theorem d_Ins_own_34 : decode prog_6_method_4_code 34 = .ok (.aload_n 0, 1) := by decide +kernel
theorem d_Ins_own_35 : decode prog_6_method_4_code 35 = .ok (.aload_n 0, 1) := by decide +kernel
theorem d_Ins_own_36 : decode prog_6_method_4_code 36 = .ok (.getfield 27, 3) := by decide +kernel
theorem d_Ins_own_39 : decode prog_6_method_4_code 39 = .ok (.iload_n 1, 1) := by decide +kernel
theorem d_Ins_own_40 : decode prog_6_method_4_code 40 = .ok (.iaload, 1) := by decide +kernel
theorem d_Ins_own_41 : decode prog_6_method_4_code 41 = .ok (.ifCond .ne 7, 3) := by decide +kernel
theorem d_Ins_own_44 : decode prog_6_method_4_code 44 = .ok (.iconst 1, 1) := by decide +kernel
theorem d_Ins_own_45 : decode prog_6_method_4_code 45 = .ok (.goto 4, 3) := by decide +kernel
theorem d_Ins_own_48 : decode prog_6_method_4_code 48 = .ok (.iconst 0, 1) := by decide +kernel
theorem d_Ins_own_49 : decode prog_6_method_4_code 49 = .ok (.invokevirtual 92, 3) := by decide +kernel
theorem d_Ins_own_52 : decode prog_6_method_4_code 52 = .ok (.aload_n 0, 1) := by decide +kernel
theorem d_Ins_own_53 : decode prog_6_method_4_code 53 = .ok (.getfield 27, 3) := by decide +kernel
theorem d_Ins_own_56 : decode prog_6_method_4_code 56 = .ok (.iload_n 1, 1) := by decide +kernel
theorem d_Ins_own_57 : decode prog_6_method_4_code 57 = .ok (.iload_n 2, 1) := by decide +kernel
theorem d_Ins_own_58 : decode prog_6_method_4_code 58 = .ok (.iastore, 1) := by decide +kernel
theorem d_Ins_own_59 : decode prog_6_method_4_code 59 = .ok (.return_, 1) := by decide +kernel
set_option maxHeartbeats 4000000 in
set_option maxRecDepth 100000 in
theorem v_Ins_own_49 {p : Program} {l : Launch} {e : Env} {s : State} {m : MethodId} {args : Array Value} {below : List Frame} {meth : Method} {c : Code} {D : va_G} {ad : Nat → Nat} {ca : Nat → ClassId} {A : Nat → Prop} {FU : Nat} {q : St} (X : FX p s m meth c prog_6_method_4_code 3 none "FlashFiles$Inspector" D (tyF ca) A) {y1 : Int32} {y2 : Int32} {z0 : Int32} {g : St} {H : Heap} {locs : List Loc} {ls : Array Slot} (hP : va_P D cls (wF ad ca g) H) (hD : va_D A (wF ad ca g)) (hS : va_S A s.heap H locs) (hl : lv_has ls 3 [(0, .ref (ad 10)), (1, .int y1), (2, .int y2)]) (h : Ins_own_b49 FU y1 y2 z0 g = some q) : W p l e (rmN 2) s m args below meth c H locs 0 0 (MQ below (fxQv D (tyF ca) A (wF ad ca q)) args s 0 0 A) (F0 m 49 ls [.int z0, .ref (ad 10)]) := by
  have hx := X.1
  have hb := X.2.1
  unfold Ins_own_b49 at h
  obtain ⟨p1, e1, h⟩ := bd_some h
  refine fx_v X (fx_runV (As := [.int z0]) X (m_Ins_expect e1 _) hP hD kv_Ins_92 ⟨Nat.le_of_ble_eq_true rfl, Nat.le_of_ble_eq_true rfl⟩ 10 rfl rfl rfl hl.1 rfl (Nat.le_of_ble_eq_true rfl) d_Ins_own_49) hD hS (fun H locs hP hD hS => ?_)
  refine lv_aload_n hx hb d_Ins_own_52 rfl (lv_at hl 0 rfl) ?_
  refine gF_ins_owned X hP d_Ins_own_53 ?_
  refine lv_iload_n hx hb d_Ins_own_56 rfl (lv_at hl 1 rfl) ?_
  refine lv_iload_n hx hb d_Ins_own_57 rfl (lv_at hl 2 rfl) ?_
  obtain ⟨g2, e1, h⟩ := bd_some h
  refine sF_24 X hP hD hS e1 d_Ins_own_58 (fun H locs hP hD hS => ?_)
  cases h
  exact fx_vret X hP hD hS d_Ins_own_59
set_option maxHeartbeats 4000000 in
set_option maxRecDepth 100000 in
theorem v_Ins_own_24 {p : Program} {l : Launch} {e : Env} {s : State} {m : MethodId} {args : Array Value} {below : List Frame} {meth : Method} {c : Code} {D : va_G} {ad : Nat → Nat} {ca : Nat → ClassId} {A : Nat → Prop} {FU : Nat} {q : St} (X : FX p s m meth c prog_6_method_4_code 3 none "FlashFiles$Inspector" D (tyF ca) A) {y1 : Int32} {y2 : Int32} {z0 : Int32} {g : St} {H : Heap} {locs : List Loc} {ls : Array Slot} (hP : va_P D cls (wF ad ca g) H) (hD : va_D A (wF ad ca g)) (hS : va_S A s.heap H locs) (hl : lv_has ls 3 [(0, .ref (ad 10)), (1, .int y1), (2, .int y2)]) (h : Ins_own_b24 FU y1 y2 z0 g = some q) : W p l e (rmN 2) s m args below meth c H locs 0 0 (MQ below (fxQv D (tyF ca) A (wF ad ca q)) args s 0 0 A) (F0 m 24 ls [.int z0, .ref (ad 10)]) := by
  have hx := X.1
  have hb := X.2.1
  unfold Ins_own_b24 at h
  obtain ⟨p3, e1, h⟩ := bd_some h
  refine fx_v X (fx_runV (As := [.int z0]) X (m_Ins_expect e1 _) hP hD kv_Ins_92 ⟨Nat.le_of_ble_eq_true rfl, Nat.le_of_ble_eq_true rfl⟩ 10 rfl rfl rfl hl.1 rfl (Nat.le_of_ble_eq_true rfl) d_Ins_own_24) hD hS (fun H locs hP hD hS => ?_)
  refine lv_iload_n hx hb d_Ins_own_27 rfl (lv_at hl 1 rfl) ?_
  obtain ⟨v4, e1, h⟩ := bd_some h
  refine fx_i X (fx_runN X (m_FF_segmentOf e1 _) (As := [.int y1]) hP hD kn_Ins_96 ⟨Nat.le_of_ble_eq_true rfl, Nat.le_of_ble_eq_true rfl⟩ rfl hl.1 rfl (Nat.le_of_ble_eq_true rfl) d_Ins_own_28) hD hS (fun H locs hP hD hS => ?_)
  refine lv_if_lt (tgt := 59) hx hb d_Ins_own_31 (by decide) (fun hc => ?_) (fun hc => ?_)
  · have h := if_t hc h
    cases h
    exact fx_vret X hP hD hS d_Ins_own_59
  · have h := if_f hc h
    refine lv_aload_n hx hb d_Ins_own_34 rfl (lv_at hl 0 rfl) ?_
    refine lv_aload_n hx hb d_Ins_own_35 rfl (lv_at hl 0 rfl) ?_
    refine gF_ins_owned X hP d_Ins_own_36 ?_
    refine lv_iload_n hx hb d_Ins_own_39 rfl (lv_at hl 1 rfl) ?_
    obtain ⟨v5, e1, h⟩ := bd_some h
    refine rF_24 X hP e1 d_Ins_own_40 ?_
    refine lv_if_ne (tgt := 48) hx hb d_Ins_own_41 (by decide) (fun hc => ?_) (fun hc => ?_)
    · have h := if_f hc h
      refine lv_iconst (v := 0) hx hb d_Ins_own_48 (by decide) ?_
      exact v_Ins_own_49 X  hP hD hS (lv_sub hl [0, 1, 2] rfl) h
    · have h := if_t hc h
      refine lv_iconst (v := 1) hx hb d_Ins_own_44 (by decide) ?_
      refine lv_goto (tgt := 49) hx hb d_Ins_own_45 (by decide) ?_
      exact v_Ins_own_49 X  hP hD hS (lv_sub hl [0, 1, 2] rfl) h
set_option maxHeartbeats 4000000 in
set_option maxRecDepth 100000 in
theorem v_Ins_own_23 {p : Program} {l : Launch} {e : Env} {s : State} {m : MethodId} {args : Array Value} {below : List Frame} {meth : Method} {c : Code} {D : va_G} {ad : Nat → Nat} {ca : Nat → ClassId} {A : Nat → Prop} {FU : Nat} {q : St} (X : FX p s m meth c prog_6_method_4_code 3 none "FlashFiles$Inspector" D (tyF ca) A) {y1 : Int32} {y2 : Int32} {g : St} {H : Heap} {locs : List Loc} {ls : Array Slot} (hP : va_P D cls (wF ad ca g) H) (hD : va_D A (wF ad ca g)) (hS : va_S A s.heap H locs) (hl : lv_has ls 3 [(0, .ref (ad 10)), (1, .int y1), (2, .int y2)]) (h : Ins_own_b23 FU y1 y2 g = some q) : W p l e (rmN 2) s m args below meth c H locs 0 0 (MQ below (fxQv D (tyF ca) A (wF ad ca q)) args s 0 0 A) (F0 m 23 ls [.ref (ad 10)]) := by
  have hx := X.1
  have hb := X.2.1
  unfold Ins_own_b23 at h
  refine lv_iconst (v := 0) hx hb d_Ins_own_23 (by decide) ?_
  exact v_Ins_own_24 X  hP hD hS (lv_sub hl [0, 1, 2] rfl) h
set_option maxHeartbeats 4000000 in
set_option maxRecDepth 100000 in
theorem m_Ins_own {l : Launch} {D : va_G} {ad : Nat → Nat} {ca : Nat → ClassId} {FU : Nat} {x1 : Int32} {x2 : Int32} {g : St} {q : St} (h : Ins_own FU x1 x2 g = some q) : CV l ⟨"FlashFiles$Inspector", "own", "(II)V"⟩ prog_6_method_4_code 3 2 D (tyF ca) (wF ad ca g) [.ref (ad 10), .int x1, .int x2] (wF ad ca q) := by
  intro sz
  refine Met.fx (Qc := fun A => fxQv D (tyF ca) A (wF ad ca q)) (by decide) (Nat.le_of_ble_eq_true rfl) ?_
  intro p e s m below meth c A ls X hP hD hl
  have hl : lv_has ls 3 [(0, .ref (ad 10)), (1, .int x1), (2, .int x2)] := hl
  have hS : va_S A s.heap s.heap [] := va_S.rf
  have hx := X.1
  have hb := X.2.1
  unfold Ins_own at h
  refine lv_aload_n hx hb d_Ins_own_0 rfl (lv_at hl 0 rfl) ?_
  refine lv_iload_n hx hb d_Ins_own_1 rfl (lv_at hl 1 rfl) ?_
  obtain ⟨v6, e1, h⟩ := bd_some h
  refine fx_i X (fx_runN X (m_FF_segmentOf e1 _) (As := [.int x1]) hP hD kn_Ins_96 ⟨Nat.le_of_ble_eq_true rfl, Nat.le_of_ble_eq_true rfl⟩ rfl hl.1 rfl (Nat.le_of_ble_eq_true rfl) d_Ins_own_2) hD hS (fun H locs hP hD hS => ?_)
  refine lv_if_lt (tgt := 23) hx hb d_Ins_own_5 (by decide) (fun hc => ?_) (fun hc => ?_)
  · have h := if_t hc h
    exact v_Ins_own_23 X  hP hD hS (lv_sub hl [0, 1, 2] rfl) h
  · have h := if_f hc h
    refine lv_aload_n hx hb d_Ins_own_8 rfl (lv_at hl 0 rfl) ?_
    refine gF_ins_device X hP d_Ins_own_9 ?_
    refine lv_iload_n hx hb d_Ins_own_12 rfl (lv_at hl 1 rfl) ?_
    obtain ⟨v7, e1, h⟩ := bd_some h
    refine fx_i X (fx_runV (As := [.int x1]) X (m_Dev_isWritten e1 _) hP hD kv_Ins_99 ⟨Nat.le_of_ble_eq_true rfl, Nat.le_of_ble_eq_true rfl⟩ 3 rfl rfl rfl hl.1 rfl (Nat.le_of_ble_eq_true rfl) d_Ins_own_13) hD hS (fun H locs hP hD hS => ?_)
    refine lv_if_eq (tgt := 23) hx hb d_Ins_own_16 (by decide) (fun hc => ?_) (fun hc => ?_)
    · have h := if_t hc h
      exact v_Ins_own_23 X  hP hD hS (lv_sub hl [0, 1, 2] rfl) h
    · have h := if_f hc h
      refine lv_iconst (v := 1) hx hb d_Ins_own_19 (by decide) ?_
      refine lv_goto (tgt := 24) hx hb d_Ins_own_20 (by decide) ?_
      exact v_Ins_own_24 X  hP hD hS (lv_sub hl [0, 1, 2] rfl) h
theorem d_Ins_inspectNode_0 : decode prog_6_method_6_code 0 = .ok (.aload_n 0, 1) := by decide +kernel
theorem d_Ins_inspectNode_1 : decode prog_6_method_6_code 1 = .ok (.getfield 9, 3) := by decide +kernel
theorem d_Ins_inspectNode_4 : decode prog_6_method_6_code 4 = .ok (.iload_n 2, 1) := by decide +kernel
theorem d_Ins_inspectNode_5 : decode prog_6_method_6_code 5 = .ok (.bipush 58, 2) := by decide +kernel
theorem d_Ins_inspectNode_7 : decode prog_6_method_6_code 7 = .ok (.invokevirtual 103, 3) := by decide +kernel
theorem d_Ins_inspectNode_10 : decode prog_6_method_6_code 10 = .ok (.istore_n 3, 1) := by decide +kernel
theorem d_Ins_inspectNode_11 : decode prog_6_method_6_code 11 = .ok (.aload_n 0, 1) := by decide +kernel
theorem d_Ins_inspectNode_12 : decode prog_6_method_6_code 12 = .ok (.getfield 9, 3) := by decide +kernel
theorem d_Ins_inspectNode_15 : decode prog_6_method_6_code 15 = .ok (.iload_n 2, 1) := by decide +kernel
theorem d_Ins_inspectNode_16 : decode prog_6_method_6_code 16 = .ok (.bipush 61, 2) := by decide +kernel
theorem d_Ins_inspectNode_18 : decode prog_6_method_6_code 18 = .ok (.invokevirtual 103, 3) := by decide +kernel
theorem d_Ins_inspectNode_21 : decode prog_6_method_6_code 21 = .ok (.istore 4, 2) := by decide +kernel
theorem d_Ins_inspectNode_23 : decode prog_6_method_6_code 23 = .ok (.aload_n 0, 1) := by decide +kernel
theorem d_Ins_inspectNode_24 : decode prog_6_method_6_code 24 = .ok (.iload_n 2, 1) := by decide +kernel
theorem d_Ins_inspectNode_25 : decode prog_6_method_6_code 25 = .ok (.iconst 1, 1) := by decide +kernel
theorem d_Ins_inspectNode_26 : decode prog_6_method_6_code 26 = .ok (.invokevirtual 106, 3) := by decide +kernel
theorem d_Ins_inspectNode_29 : decode prog_6_method_6_code 29 = .ok (.aload_n 0, 1) := by decide +kernel
theorem d_Ins_inspectNode_30 : decode prog_6_method_6_code 30 = .ok (.aload_n 0, 1) := by decide +kernel
theorem d_Ins_inspectNode_31 : decode prog_6_method_6_code 31 = .ok (.getfield 9, 3) := by decide +kernel
theorem d_Ins_inspectNode_34 : decode prog_6_method_6_code 34 = .ok (.iload_n 2, 1) := by decide +kernel
theorem d_Ins_inspectNode_35 : decode prog_6_method_6_code 35 = .ok (.bipush 60, 2) := by decide +kernel
theorem d_Ins_inspectNode_37 : decode prog_6_method_6_code 37 = .ok (.invokevirtual 103, 3) := by decide +kernel
theorem d_Ins_inspectNode_40 : decode prog_6_method_6_code 40 = .ok (.iload_n 1, 1) := by decide +kernel
theorem d_Ins_inspectNode_41 : decode prog_6_method_6_code 41 = .ok (.if_icmp .ne 7, 3) := by decide +kernel
theorem d_Ins_inspectNode_44 : decode prog_6_method_6_code 44 = .ok (.iconst 1, 1) := by decide +kernel
theorem d_Ins_inspectNode_45 : decode prog_6_method_6_code 45 = .ok (.goto 4, 3) := by decide +kernel
theorem d_Ins_inspectNode_48 : decode prog_6_method_6_code 48 = .ok (.iconst 0, 1) := by decide +kernel
theorem d_Ins_inspectNode_49 : decode prog_6_method_6_code 49 = .ok (.invokevirtual 92, 3) := by decide +kernel
theorem d_Ins_inspectNode_52 : decode prog_6_method_6_code 52 = .ok (.aload_n 0, 1) := by decide +kernel
theorem d_Ins_inspectNode_53 : decode prog_6_method_6_code 53 = .ok (.iload_n 3, 1) := by decide +kernel
theorem d_Ins_inspectNode_54 : decode prog_6_method_6_code 54 = .ok (.ifCond .ne 17, 3) := by decide +kernel
theorem d_Ins_inspectNode_57 : decode prog_6_method_6_code 57 = .ok (.iload 4, 2) := by decide +kernel
theorem d_Ins_inspectNode_59 : decode prog_6_method_6_code 59 = .ok (.iload_n 1, 1) := by decide +kernel
theorem d_Ins_inspectNode_60 : decode prog_6_method_6_code 60 = .ok (.if_icmp .ne 7, 3) := by decide +kernel
theorem d_Ins_inspectNode_63 : decode prog_6_method_6_code 63 = .ok (.iconst 1, 1) := by decide +kernel
theorem d_Ins_inspectNode_64 : decode prog_6_method_6_code 64 = .ok (.goto 33, 3) := by decide +kernel
theorem d_Ins_inspectNode_67 : decode prog_6_method_6_code 67 = .ok (.iconst 0, 1) := by decide +kernel
theorem d_Ins_inspectNode_68 : decode prog_6_method_6_code 68 = .ok (.goto 29, 3) := by decide +kernel
theorem d_Ins_inspectNode_71 : decode prog_6_method_6_code 71 = .ok (.iload 4, 2) := by decide +kernel
theorem d_Ins_inspectNode_73 : decode prog_6_method_6_code 73 = .ok (.iconst 1, 1) := by decide +kernel
theorem d_Ins_inspectNode_74 : decode prog_6_method_6_code 74 = .ok (.if_icmp .lt 22, 3) := by decide +kernel
theorem d_Ins_inspectNode_77 : decode prog_6_method_6_code 77 = .ok (.iload 4, 2) := by decide +kernel
theorem d_Ins_inspectNode_79 : decode prog_6_method_6_code 79 = .ok (.sipush 250, 3) := by decide +kernel
theorem d_Ins_inspectNode_82 : decode prog_6_method_6_code 82 = .ok (.if_icmp .gt 14, 3) := by decide +kernel
theorem d_Ins_inspectNode_85 : decode prog_6_method_6_code 85 = .ok (.iload_n 1, 1) := by decide +kernel
theorem d_Ins_inspectNode_86 : decode prog_6_method_6_code 86 = .ok (.sipush 250, 3) := by decide +kernel
theorem d_Ins_inspectNode_89 : decode prog_6_method_6_code 89 = .ok (.if_icmp .le 7, 3) := by decide +kernel
theorem d_Ins_inspectNode_92 : decode prog_6_method_6_code 92 = .ok (.iconst 1, 1) := by decide +kernel
theorem d_Ins_inspectNode_93 : decode prog_6_method_6_code 93 = .ok (.goto 4, 3) := by decide +kernel
theorem d_Ins_inspectNode_96 : decode prog_6_method_6_code 96 = .ok (.iconst 0, 1) := by decide +kernel
theorem d_Ins_inspectNode_97 : decode prog_6_method_6_code 97 = .ok (.invokevirtual 92, 3) := by decide +kernel
theorem d_Ins_inspectNode_100 : decode prog_6_method_6_code 100 = .ok (.iload_n 3, 1) := by decide +kernel
theorem d_Ins_inspectNode_101 : decode prog_6_method_6_code 101 = .ok (.invokestatic 109, 3) := by decide +kernel
theorem d_Ins_inspectNode_104 : decode prog_6_method_6_code 104 = .ok (.istore 5, 2) := by decide +kernel
theorem d_Ins_inspectNode_106 : decode prog_6_method_6_code 106 = .ok (.iload 5, 2) := by decide +kernel
theorem d_Ins_inspectNode_108 : decode prog_6_method_6_code 108 = .ok (.iload_n 3, 1) := by decide +kernel
theorem d_Ins_inspectNode_109 : decode prog_6_method_6_code 109 = .ok (.aload_n 0, 1) := by decide +kernel
theorem d_Ins_inspectNode_110 : decode prog_6_method_6_code 110 = .ok (.getfield 9, 3) := by decide +kernel
theorem d_Ins_inspectNode_113 : decode prog_6_method_6_code 113 = .ok (.iload_n 2, 1) := by decide +kernel
theorem d_Ins_inspectNode_114 : decode prog_6_method_6_code 114 = .ok (.iconst 0, 1) := by decide +kernel
theorem d_Ins_inspectNode_115 : decode prog_6_method_6_code 115 = .ok (.invokevirtual 103, 3) := by decide +kernel
theorem d_Ins_inspectNode_118 : decode prog_6_method_6_code 118 = .ok (.invokestatic 112, 3) := by decide +kernel
theorem d_Ins_inspectNode_121 : decode prog_6_method_6_code 121 = .ok (.iadd, 1) := by decide +kernel
theorem d_Ins_inspectNode_122 : decode prog_6_method_6_code 122 = .ok (.istore 6, 2) := by decide +kernel
theorem d_Ins_inspectNode_124 : decode prog_6_method_6_code 124 = .ok (.iload 5, 2) := by decide +kernel
theorem d_Ins_inspectNode_126 : decode prog_6_method_6_code 126 = .ok (.istore 7, 2) := by decide +kernel
theorem d_Ins_inspectNode_128 : decode prog_6_method_6_code 128 = .ok (.iload 7, 2) := by decide +kernel
theorem d_Ins_inspectNode_130 : decode prog_6_method_6_code 130 = .ok (.iload 6, 2) := by decide +kernel
theorem d_Ins_inspectNode_132 : decode prog_6_method_6_code 132 = .ok (.if_icmp .ge 41, 3) := by decide +kernel
theorem d_Ins_inspectNode_135 : decode prog_6_method_6_code 135 = .ok (.aload_n 0, 1) := by decide +kernel
theorem d_Ins_inspectNode_136 : decode prog_6_method_6_code 136 = .ok (.getfield 9, 3) := by decide +kernel
theorem d_Ins_inspectNode_139 : decode prog_6_method_6_code 139 = .ok (.iload_n 2, 1) := by decide +kernel
theorem d_Ins_inspectNode_140 : decode prog_6_method_6_code 140 = .ok (.iload 7, 2) := by decide +kernel
theorem d_Ins_inspectNode_142 : decode prog_6_method_6_code 142 = .ok (.invokevirtual 103, 3) := by decide +kernel
theorem d_Ins_inspectNode_145 : decode prog_6_method_6_code 145 = .ok (.ifCond .eq 22, 3) := by decide +kernel
theorem d_Ins_inspectNode_148 : decode prog_6_method_6_code 148 = .ok (.aload_n 0, 1) := by decide +kernel
theorem d_Ins_inspectNode_149 : decode prog_6_method_6_code 149 = .ok (.aload_n 0, 1) := by decide +kernel
theorem d_Ins_inspectNode_150 : decode prog_6_method_6_code 150 = .ok (.getfield 9, 3) := by decide +kernel
theorem d_Ins_inspectNode_153 : decode prog_6_method_6_code 153 = .ok (.iload_n 2, 1) := by decide +kernel
theorem d_Ins_inspectNode_154 : decode prog_6_method_6_code 154 = .ok (.iload 7, 2) := by decide +kernel
theorem d_Ins_inspectNode_156 : decode prog_6_method_6_code 156 = .ok (.invokevirtual 103, 3) := by decide +kernel
theorem d_Ins_inspectNode_159 : decode prog_6_method_6_code 159 = .ok (.sipush 4095, 3) := by decide +kernel
theorem d_Ins_inspectNode_162 : decode prog_6_method_6_code 162 = .ok (.iand, 1) := by decide +kernel
theorem d_Ins_inspectNode_163 : decode prog_6_method_6_code 163 = .ok (.iconst 2, 1) := by decide +kernel
theorem d_Ins_inspectNode_164 : decode prog_6_method_6_code 164 = .ok (.invokevirtual 106, 3) := by decide +kernel
theorem d_Ins_inspectNode_167 : decode prog_6_method_6_code 167 = .ok (.iinc 7 1, 3) := by decide +kernel
theorem d_Ins_inspectNode_170 : decode prog_6_method_6_code 170 = .ok (.goto (-42), 3) := by decide +kernel
theorem d_Ins_inspectNode_173 : decode prog_6_method_6_code 173 = .ok (.iload_n 3, 1) := by decide +kernel
theorem d_Ins_inspectNode_174 : decode prog_6_method_6_code 174 = .ok (.iconst 2, 1) := by decide +kernel
theorem d_Ins_inspectNode_175 : decode prog_6_method_6_code 175 = .ok (.if_icmp .ne 13, 3) := by decide +kernel
theorem d_Ins_inspectNode_178 : decode prog_6_method_6_code 178 = .ok (.aload_n 0, 1) := by decide +kernel
theorem d_Ins_inspectNode_179 : decode prog_6_method_6_code 179 = .ok (.iload_n 2, 1) := by decide +kernel
theorem d_Ins_inspectNode_180 : decode prog_6_method_6_code 180 = .ok (.iload 4, 2) := by decide +kernel
theorem d_Ins_inspectNode_182 : decode prog_6_method_6_code 182 = .ok (.invokevirtual 115, 3) := by decide +kernel
theorem d_Ins_inspectNode_185 : decode prog_6_method_6_code 185 = .ok (.goto 39, 3) := by decide +kernel
theorem d_Ins_inspectNode_188 : decode prog_6_method_6_code 188 = .ok (.iload_n 3, 1) := by decide +kernel
theorem d_Ins_inspectNode_189 : decode prog_6_method_6_code 189 = .ok (.ifCond .ne 25, 3) := by decide +kernel
theorem d_Ins_inspectNode_192 : decode prog_6_method_6_code 192 = .ok (.aload_n 0, 1) := by decide +kernel
theorem d_Ins_inspectNode_193 : decode prog_6_method_6_code 193 = .ok (.getfield 9, 3) := by decide +kernel
theorem d_Ins_inspectNode_196 : decode prog_6_method_6_code 196 = .ok (.iload_n 2, 1) := by decide +kernel
theorem d_Ins_inspectNode_197 : decode prog_6_method_6_code 197 = .ok (.iconst 0, 1) := by decide +kernel
theorem d_Ins_inspectNode_198 : decode prog_6_method_6_code 198 = .ok (.invokevirtual 103, 3) := by decide +kernel
theorem d_Ins_inspectNode_201 : decode prog_6_method_6_code 201 = .ok (.iconst 2, 1) := by decide +kernel
theorem d_Ins_inspectNode_202 : decode prog_6_method_6_code 202 = .ok (.if_icmp .ne 12, 3) := by decide +kernel
theorem d_Ins_inspectNode_205 : decode prog_6_method_6_code 205 = .ok (.aload_n 0, 1) := by decide +kernel
theorem d_Ins_inspectNode_206 : decode prog_6_method_6_code 206 = .ok (.iload_n 1, 1) := by decide +kernel
theorem d_Ins_inspectNode_207 : decode prog_6_method_6_code 207 = .ok (.iload_n 2, 1) := by decide +kernel
theorem d_Ins_inspectNode_208 : decode prog_6_method_6_code 208 = .ok (.invokevirtual 118, 3) := by decide +kernel
theorem d_Ins_inspectNode_211 : decode prog_6_method_6_code 211 = .ok (.goto 13, 3) := by decide +kernel
theorem d_Ins_inspectNode_214 : decode prog_6_method_6_code 214 = .ok (.iload_n 3, 1) := by decide +kernel
theorem d_Ins_inspectNode_215 : decode prog_6_method_6_code 215 = .ok (.ifCond .ne 9, 3) := by decide +kernel
theorem d_Ins_inspectNode_218 : decode prog_6_method_6_code 218 = .ok (.aload_n 0, 1) := by decide +kernel
theorem d_Ins_inspectNode_219 : decode prog_6_method_6_code 219 = .ok (.iload_n 1, 1) := by decide +kernel
theorem d_Ins_inspectNode_220 : decode prog_6_method_6_code 220 = .ok (.iload_n 2, 1) := by decide +kernel
theorem d_Ins_inspectNode_221 : decode prog_6_method_6_code 221 = .ok (.invokevirtual 121, 3) := by decide +kernel
theorem d_Ins_inspectNode_224 : decode prog_6_method_6_code 224 = .ok (.return_, 1) := by decide +kernel
set_option maxHeartbeats 4000000 in
set_option maxRecDepth 100000 in
theorem v_Ins_inspectNode_214 {p : Program} {l : Launch} {e : Env} {s : State} {m : MethodId} {args : Array Value} {below : List Frame} {meth : Method} {c : Code} {D : va_G} {ad : Nat → Nat} {ca : Nat → ClassId} {A : Nat → Prop} {FU : Nat} {q : St} (X : FX p s m meth c prog_6_method_6_code 8 none "FlashFiles$Inspector" D (tyF ca) A) {y1 : Int32} {y2 : Int32} {y3 : Int32} {g : St} {H : Heap} {locs : List Loc} {ls : Array Slot} (hP : va_P D cls (wF ad ca g) H) (hD : va_D A (wF ad ca g)) (hS : va_S A s.heap H locs) (hl : lv_has ls 8 [(0, .ref (ad 10)), (1, .int y1), (2, .int y2), (3, .int y3)]) (h : Ins_inspectNode_b214 FU y1 y2 y3 g = some q) : W p l e (rmN 4) s m args below meth c H locs 0 0 (MQ below (fxQv D (tyF ca) A (wF ad ca q)) args s 0 0 A) (F0 m 214 ls []) := by
  have hx := X.1
  have hb := X.2.1
  unfold Ins_inspectNode_b214 at h
  refine lv_iload_n hx hb d_Ins_inspectNode_214 rfl (lv_at hl 3 rfl) ?_
  refine lv_if_ne (tgt := 224) hx hb d_Ins_inspectNode_215 (by decide) (fun hc => ?_) (fun hc => ?_)
  · have h := if_f hc h
    cases h
    exact fx_vret X hP hD hS d_Ins_inspectNode_224
  · have h := if_t hc h
    refine lv_aload_n hx hb d_Ins_inspectNode_218 rfl (lv_at hl 0 rfl) ?_
    refine lv_iload_n hx hb d_Ins_inspectNode_219 rfl (lv_at hl 1 rfl) ?_
    refine lv_iload_n hx hb d_Ins_inspectNode_220 rfl (lv_at hl 2 rfl) ?_
    obtain ⟨p1, e1, h⟩ := bd_some h
    refine fx_v X (fx_runV (As := [.int y1, .int y2]) X (m_Ins_inspectFile e1 _) hP hD kv_Ins_121 ⟨Nat.le_of_ble_eq_true rfl, Nat.le_of_ble_eq_true rfl⟩ 10 rfl rfl rfl hl.1 rfl (Nat.le_of_ble_eq_true rfl) d_Ins_inspectNode_221) hD hS (fun H locs hP hD hS => ?_)
    cases h
    exact fx_vret X hP hD hS d_Ins_inspectNode_224
set_option maxHeartbeats 4000000 in
set_option maxRecDepth 100000 in
theorem v_Ins_inspectNode_167 {p : Program} {l : Launch} {e : Env} {s : State} {m : MethodId} {args : Array Value} {below : List Frame} {meth : Method} {c : Code} {D : va_G} {ad : Nat → Nat} {ca : Nat → ClassId} {A : Nat → Prop} {FU : Nat} {q : St} (X : FX p s m meth c prog_6_method_6_code 8 none "FlashFiles$Inspector" D (tyF ca) A) {k128 : Int32 → Int32 → Int32 → Int32 → Int32 → Int32 → St → Option (St)} (hk128 : ∀ (y1 y2 y3 y4 y6 y7 : Int32) (g : St) (H : Heap) (locs : List Loc) (ls : Array Slot), va_P D cls (wF ad ca g) H → va_D A (wF ad ca g) → va_S A s.heap H locs → lv_has ls 8 [(0, .ref (ad 10)), (1, .int y1), (2, .int y2), (3, .int y3), (4, .int y4), (6, .int y6), (7, .int y7)] → k128 y1 y2 y3 y4 y6 y7 g = some q → W p l e (rmN 4) s m args below meth c H locs 0 0 (MQ below (fxQv D (tyF ca) A (wF ad ca q)) args s 0 0 A) (F0 m 128 ls [])) {y1 : Int32} {y2 : Int32} {y3 : Int32} {y4 : Int32} {y6 : Int32} {y7 : Int32} {g : St} {H : Heap} {locs : List Loc} {ls : Array Slot} (hP : va_P D cls (wF ad ca g) H) (hD : va_D A (wF ad ca g)) (hS : va_S A s.heap H locs) (hl : lv_has ls 8 [(0, .ref (ad 10)), (1, .int y1), (2, .int y2), (3, .int y3), (4, .int y4), (6, .int y6), (7, .int y7)]) (h : Ins_inspectNode_b167 FU k128 y1 y2 y3 y4 y6 y7 g = some q) : W p l e (rmN 4) s m args below meth c H locs 0 0 (MQ below (fxQv D (tyF ca) A (wF ad ca q)) args s 0 0 A) (F0 m 167 ls []) := by
  have hx := X.1
  have hb := X.2.1
  unfold Ins_inspectNode_b167 at h
  refine lv_iinc (k := 6) (v := (y7 + (1 : Int32))) hx hb d_Ins_inspectNode_167 hl rfl (oi_1 _) (by decide) rfl (fun ls hl => ?_)
  have hl : lv_has ls 8 [(7, .int (y7 + (1 : Int32))), (0, .ref (ad 10)), (1, .int y1), (2, .int y2), (3, .int y3), (4, .int y4), (6, .int y6)] := hl
  refine lv_goto (tgt := 128) hx hb d_Ins_inspectNode_170 (by decide) ?_
  exact hk128 _ _ _ _ _ _ _ _ _ _ hP hD hS (lv_sub hl [1, 2, 3, 4, 5, 6, 0] rfl) h
set_option maxHeartbeats 4000000 in
set_option maxRecDepth 100000 in
theorem v_Ins_inspectNode_128 {p : Program} {l : Launch} {e : Env} {s : State} {m : MethodId} {args : Array Value} {below : List Frame} {meth : Method} {c : Code} {D : va_G} {ad : Nat → Nat} {ca : Nat → ClassId} {A : Nat → Prop} {FU : Nat} {q : St} (X : FX p s m meth c prog_6_method_6_code 8 none "FlashFiles$Inspector" D (tyF ca) A) : ∀ (n : Nat), ∀ (y1 y2 y3 y4 y6 y7 : Int32) (g : St) (H : Heap) (locs : List Loc) (ls : Array Slot), va_P D cls (wF ad ca g) H → va_D A (wF ad ca g) → va_S A s.heap H locs → lv_has ls 8 [(0, .ref (ad 10)), (1, .int y1), (2, .int y2), (3, .int y3), (4, .int y4), (6, .int y6), (7, .int y7)] → Ins_inspectNode_b128 FU n y1 y2 y3 y4 y6 y7 g = some q → W p l e (rmN 4) s m args below meth c H locs 0 0 (MQ below (fxQv D (tyF ca) A (wF ad ca q)) args s 0 0 A) (F0 m 128 ls []) := by
  have hx := X.1
  have hb := X.2.1
  intro n
  induction n with
  | zero =>
    intro y1 y2 y3 y4 y6 y7 g H locs ls hP hD hS hl h
    cases h
  | succ n ih =>
    intro y1 y2 y3 y4 y6 y7 g H locs ls hP hD hS hl h
    have h := h
    rw [Ins_inspectNode_b128.eq_2] at h
    refine lv_iload hx hb d_Ins_inspectNode_128 (lv_at hl 6 rfl) ?_
    refine lv_iload hx hb d_Ins_inspectNode_130 (lv_at hl 5 rfl) ?_
    refine lv_icmp_ge (tgt := 173) hx hb d_Ins_inspectNode_132 (by decide) (fun hc => ?_) (fun hc => ?_)
    · have h := if_t hc h
      refine lv_iload_n hx hb d_Ins_inspectNode_173 rfl (lv_at hl 3 rfl) ?_
      refine lv_iconst (v := 2) hx hb d_Ins_inspectNode_174 (by decide) ?_
      refine lv_icmp_ne (tgt := 188) hx hb d_Ins_inspectNode_175 (by decide) (fun hc => ?_) (fun hc => ?_)
      · have h := if_f hc h
        refine lv_iload_n hx hb d_Ins_inspectNode_188 rfl (lv_at hl 3 rfl) ?_
        refine lv_if_ne (tgt := 214) hx hb d_Ins_inspectNode_189 (by decide) (fun hc => ?_) (fun hc => ?_)
        · have h := if_f hc h
          exact v_Ins_inspectNode_214 X  hP hD hS (lv_sub hl [0, 1, 2, 3] rfl) h
        · have h := if_t hc h
          refine lv_aload_n hx hb d_Ins_inspectNode_192 rfl (lv_at hl 0 rfl) ?_
          refine gF_ins_device X hP d_Ins_inspectNode_193 ?_
          refine lv_iload_n hx hb d_Ins_inspectNode_196 rfl (lv_at hl 2 rfl) ?_
          refine lv_iconst (v := 0) hx hb d_Ins_inspectNode_197 (by decide) ?_
          obtain ⟨v2, e1, h⟩ := bd_some h
          refine fx_i X (fx_runV (As := [.int y2, .int (0 : Int32)]) X (m_Dev_word e1 _) hP hD kv_Ins_103 ⟨Nat.le_of_ble_eq_true rfl, Nat.le_of_ble_eq_true rfl⟩ 3 rfl rfl rfl hl.1 rfl (Nat.le_of_ble_eq_true rfl) d_Ins_inspectNode_198) hD hS (fun H locs hP hD hS => ?_)
          refine lv_iconst (v := 2) hx hb d_Ins_inspectNode_201 (by decide) ?_
          refine lv_icmp_ne (tgt := 214) hx hb d_Ins_inspectNode_202 (by decide) (fun hc => ?_) (fun hc => ?_)
          · have h := if_f hc h
            exact v_Ins_inspectNode_214 X  hP hD hS (lv_sub hl [0, 1, 2, 3] rfl) h
          · have h := if_t hc h
            refine lv_aload_n hx hb d_Ins_inspectNode_205 rfl (lv_at hl 0 rfl) ?_
            refine lv_iload_n hx hb d_Ins_inspectNode_206 rfl (lv_at hl 1 rfl) ?_
            refine lv_iload_n hx hb d_Ins_inspectNode_207 rfl (lv_at hl 2 rfl) ?_
            obtain ⟨p3, e1, h⟩ := bd_some h
            refine fx_v X (fx_runV (As := [.int y1, .int y2]) X (m_Ins_inspectDirectory e1 _) hP hD kv_Ins_118 ⟨Nat.le_of_ble_eq_true rfl, Nat.le_of_ble_eq_true rfl⟩ 10 rfl rfl rfl hl.1 rfl (Nat.le_of_ble_eq_true rfl) d_Ins_inspectNode_208) hD hS (fun H locs hP hD hS => ?_)
            refine lv_goto (tgt := 224) hx hb d_Ins_inspectNode_211 (by decide) ?_
            cases h
            exact fx_vret X hP hD hS d_Ins_inspectNode_224
      · have h := if_t hc h
        refine lv_aload_n hx hb d_Ins_inspectNode_178 rfl (lv_at hl 0 rfl) ?_
        refine lv_iload_n hx hb d_Ins_inspectNode_179 rfl (lv_at hl 2 rfl) ?_
        refine lv_iload hx hb d_Ins_inspectNode_180 (lv_at hl 4 rfl) ?_
        obtain ⟨p4, e1, h⟩ := bd_some h
        refine fx_v X (fx_runV (As := [.int y2, .int y4]) X (m_Ins_inspectIndirect e1 _) hP hD kv_Ins_115 ⟨Nat.le_of_ble_eq_true rfl, Nat.le_of_ble_eq_true rfl⟩ 10 rfl rfl rfl hl.1 rfl (Nat.le_of_ble_eq_true rfl) d_Ins_inspectNode_182) hD hS (fun H locs hP hD hS => ?_)
        refine lv_goto (tgt := 224) hx hb d_Ins_inspectNode_185 (by decide) ?_
        cases h
        exact fx_vret X hP hD hS d_Ins_inspectNode_224
    · have h := if_f hc h
      refine lv_aload_n hx hb d_Ins_inspectNode_135 rfl (lv_at hl 0 rfl) ?_
      refine gF_ins_device X hP d_Ins_inspectNode_136 ?_
      refine lv_iload_n hx hb d_Ins_inspectNode_139 rfl (lv_at hl 2 rfl) ?_
      refine lv_iload hx hb d_Ins_inspectNode_140 (lv_at hl 6 rfl) ?_
      obtain ⟨v5, e1, h⟩ := bd_some h
      refine fx_i X (fx_runV (As := [.int y2, .int y7]) X (m_Dev_word e1 _) hP hD kv_Ins_103 ⟨Nat.le_of_ble_eq_true rfl, Nat.le_of_ble_eq_true rfl⟩ 3 rfl rfl rfl hl.1 rfl (Nat.le_of_ble_eq_true rfl) d_Ins_inspectNode_142) hD hS (fun H locs hP hD hS => ?_)
      refine lv_if_eq (tgt := 167) hx hb d_Ins_inspectNode_145 (by decide) (fun hc => ?_) (fun hc => ?_)
      · have h := if_t hc h
        exact v_Ins_inspectNode_167 X ih hP hD hS (lv_sub hl [0, 1, 2, 3, 4, 5, 6] rfl) h
      · have h := if_f hc h
        refine lv_aload_n hx hb d_Ins_inspectNode_148 rfl (lv_at hl 0 rfl) ?_
        refine lv_aload_n hx hb d_Ins_inspectNode_149 rfl (lv_at hl 0 rfl) ?_
        refine gF_ins_device X hP d_Ins_inspectNode_150 ?_
        refine lv_iload_n hx hb d_Ins_inspectNode_153 rfl (lv_at hl 2 rfl) ?_
        refine lv_iload hx hb d_Ins_inspectNode_154 (lv_at hl 6 rfl) ?_
        obtain ⟨v6, e1, h⟩ := bd_some h
        refine fx_i X (fx_runV (As := [.int y2, .int y7]) X (m_Dev_word e1 _) hP hD kv_Ins_103 ⟨Nat.le_of_ble_eq_true rfl, Nat.le_of_ble_eq_true rfl⟩ 3 rfl rfl rfl hl.1 rfl (Nat.le_of_ble_eq_true rfl) d_Ins_inspectNode_156) hD hS (fun H locs hP hD hS => ?_)
        refine lv_sipush (v := 4095) hx hb d_Ins_inspectNode_159 (by decide) ?_
        refine lv_iand hx hb d_Ins_inspectNode_162 ?_
        refine lv_iconst (v := 2) hx hb d_Ins_inspectNode_163 (by decide) ?_
        obtain ⟨p7, e1, h⟩ := bd_some h
        refine fx_v X (fx_runV (As := [.int (v6 &&& (4095 : Int32)), .int (2 : Int32)]) X (m_Ins_own e1 _) hP hD kv_Ins_106 ⟨Nat.le_of_ble_eq_true rfl, Nat.le_of_ble_eq_true rfl⟩ 10 rfl rfl rfl hl.1 rfl (Nat.le_of_ble_eq_true rfl) d_Ins_inspectNode_164) hD hS (fun H locs hP hD hS => ?_)
        exact v_Ins_inspectNode_167 X ih hP hD hS (lv_sub hl [0, 1, 2, 3, 4, 5, 6] rfl) h
set_option maxHeartbeats 4000000 in
set_option maxRecDepth 100000 in
theorem v_Ins_inspectNode_97 {p : Program} {l : Launch} {e : Env} {s : State} {m : MethodId} {args : Array Value} {below : List Frame} {meth : Method} {c : Code} {D : va_G} {ad : Nat → Nat} {ca : Nat → ClassId} {A : Nat → Prop} {FU : Nat} {q : St} (X : FX p s m meth c prog_6_method_6_code 8 none "FlashFiles$Inspector" D (tyF ca) A) {y1 : Int32} {y2 : Int32} {y3 : Int32} {y4 : Int32} {z0 : Int32} {g : St} {H : Heap} {locs : List Loc} {ls : Array Slot} (hP : va_P D cls (wF ad ca g) H) (hD : va_D A (wF ad ca g)) (hS : va_S A s.heap H locs) (hl : lv_has ls 8 [(0, .ref (ad 10)), (1, .int y1), (2, .int y2), (3, .int y3), (4, .int y4)]) (h : Ins_inspectNode_b97 FU y1 y2 y3 y4 z0 g = some q) : W p l e (rmN 4) s m args below meth c H locs 0 0 (MQ below (fxQv D (tyF ca) A (wF ad ca q)) args s 0 0 A) (F0 m 97 ls [.int z0, .ref (ad 10)]) := by
  have hx := X.1
  have hb := X.2.1
  unfold Ins_inspectNode_b97 at h
  obtain ⟨p8, e1, h⟩ := bd_some h
  refine fx_v X (fx_runV (As := [.int z0]) X (m_Ins_expect e1 _) hP hD kv_Ins_92 ⟨Nat.le_of_ble_eq_true rfl, Nat.le_of_ble_eq_true rfl⟩ 10 rfl rfl rfl hl.1 rfl (Nat.le_of_ble_eq_true rfl) d_Ins_inspectNode_97) hD hS (fun H locs hP hD hS => ?_)
  refine lv_iload_n hx hb d_Ins_inspectNode_100 rfl (lv_at hl 3 rfl) ?_
  obtain ⟨v9, e1, h⟩ := bd_some h
  refine fx_i X (fx_runN X (m_FF_pointersFrom e1 _) (As := [.int y3]) hP hD kn_Ins_109 ⟨Nat.le_of_ble_eq_true rfl, Nat.le_of_ble_eq_true rfl⟩ rfl hl.1 rfl (Nat.le_of_ble_eq_true rfl) d_Ins_inspectNode_101) hD hS (fun H locs hP hD hS => ?_)
  refine lv_istore hx hb d_Ins_inspectNode_104 hl (by decide) rfl (fun ls hl => ?_)
  have hl : lv_has ls 8 [(5, .int v9), (0, .ref (ad 10)), (1, .int y1), (2, .int y2), (3, .int y3), (4, .int y4)] := hl
  refine lv_iload hx hb d_Ins_inspectNode_106 (lv_at hl 0 rfl) ?_
  refine lv_iload_n hx hb d_Ins_inspectNode_108 rfl (lv_at hl 4 rfl) ?_
  refine lv_aload_n hx hb d_Ins_inspectNode_109 rfl (lv_at hl 1 rfl) ?_
  refine gF_ins_device X hP d_Ins_inspectNode_110 ?_
  refine lv_iload_n hx hb d_Ins_inspectNode_113 rfl (lv_at hl 3 rfl) ?_
  refine lv_iconst (v := 0) hx hb d_Ins_inspectNode_114 (by decide) ?_
  obtain ⟨v10, e1, h⟩ := bd_some h
  refine fx_i X (fx_runV (As := [.int y2, .int (0 : Int32)]) X (m_Dev_word e1 _) hP hD kv_Ins_103 ⟨Nat.le_of_ble_eq_true rfl, Nat.le_of_ble_eq_true rfl⟩ 3 rfl rfl rfl hl.1 rfl (Nat.le_of_ble_eq_true rfl) d_Ins_inspectNode_115) hD hS (fun H locs hP hD hS => ?_)
  obtain ⟨v11, e1, h⟩ := bd_some h
  refine fx_i X (fx_runN X (m_FF_pointersIn e1 _) (As := [.int y3, .int v10]) hP hD kn_Ins_112 ⟨Nat.le_of_ble_eq_true rfl, Nat.le_of_ble_eq_true rfl⟩ rfl hl.1 rfl (Nat.le_of_ble_eq_true rfl) d_Ins_inspectNode_118) hD hS (fun H locs hP hD hS => ?_)
  refine lv_iadd hx hb d_Ins_inspectNode_121 ?_
  refine lv_istore hx hb d_Ins_inspectNode_122 hl (by decide) rfl (fun ls hl => ?_)
  have hl : lv_has ls 8 [(6, .int (v9 + v11)), (5, .int v9), (0, .ref (ad 10)), (1, .int y1), (2, .int y2), (3, .int y3), (4, .int y4)] := hl
  refine lv_iload hx hb d_Ins_inspectNode_124 (lv_at hl 1 rfl) ?_
  refine lv_istore hx hb d_Ins_inspectNode_126 hl (by decide) rfl (fun ls hl => ?_)
  have hl : lv_has ls 8 [(7, .int v9), (6, .int (v9 + v11)), (5, .int v9), (0, .ref (ad 10)), (1, .int y1), (2, .int y2), (3, .int y3), (4, .int y4)] := hl
  exact v_Ins_inspectNode_128 X  _ _ _ _ _ _ _ _ _ _ _ hP hD hS (lv_sub hl [3, 4, 5, 6, 7, 1, 0] rfl) h
set_option maxHeartbeats 4000000 in
set_option maxRecDepth 100000 in
theorem v_Ins_inspectNode_96 {p : Program} {l : Launch} {e : Env} {s : State} {m : MethodId} {args : Array Value} {below : List Frame} {meth : Method} {c : Code} {D : va_G} {ad : Nat → Nat} {ca : Nat → ClassId} {A : Nat → Prop} {FU : Nat} {q : St} (X : FX p s m meth c prog_6_method_6_code 8 none "FlashFiles$Inspector" D (tyF ca) A) {y1 : Int32} {y2 : Int32} {y3 : Int32} {y4 : Int32} {g : St} {H : Heap} {locs : List Loc} {ls : Array Slot} (hP : va_P D cls (wF ad ca g) H) (hD : va_D A (wF ad ca g)) (hS : va_S A s.heap H locs) (hl : lv_has ls 8 [(0, .ref (ad 10)), (1, .int y1), (2, .int y2), (3, .int y3), (4, .int y4)]) (h : Ins_inspectNode_b96 FU y1 y2 y3 y4 g = some q) : W p l e (rmN 4) s m args below meth c H locs 0 0 (MQ below (fxQv D (tyF ca) A (wF ad ca q)) args s 0 0 A) (F0 m 96 ls [.ref (ad 10)]) := by
  have hx := X.1
  have hb := X.2.1
  unfold Ins_inspectNode_b96 at h
  refine lv_iconst (v := 0) hx hb d_Ins_inspectNode_96 (by decide) ?_
  exact v_Ins_inspectNode_97 X  hP hD hS (lv_sub hl [0, 1, 2, 3, 4] rfl) h
set_option maxHeartbeats 4000000 in
set_option maxRecDepth 100000 in
theorem v_Ins_inspectNode_49 {p : Program} {l : Launch} {e : Env} {s : State} {m : MethodId} {args : Array Value} {below : List Frame} {meth : Method} {c : Code} {D : va_G} {ad : Nat → Nat} {ca : Nat → ClassId} {A : Nat → Prop} {FU : Nat} {q : St} (X : FX p s m meth c prog_6_method_6_code 8 none "FlashFiles$Inspector" D (tyF ca) A) {y1 : Int32} {y2 : Int32} {y3 : Int32} {y4 : Int32} {z0 : Int32} {g : St} {H : Heap} {locs : List Loc} {ls : Array Slot} (hP : va_P D cls (wF ad ca g) H) (hD : va_D A (wF ad ca g)) (hS : va_S A s.heap H locs) (hl : lv_has ls 8 [(0, .ref (ad 10)), (1, .int y1), (2, .int y2), (3, .int y3), (4, .int y4)]) (h : Ins_inspectNode_b49 FU y1 y2 y3 y4 z0 g = some q) : W p l e (rmN 4) s m args below meth c H locs 0 0 (MQ below (fxQv D (tyF ca) A (wF ad ca q)) args s 0 0 A) (F0 m 49 ls [.int z0, .ref (ad 10)]) := by
  have hx := X.1
  have hb := X.2.1
  unfold Ins_inspectNode_b49 at h
  obtain ⟨p12, e1, h⟩ := bd_some h
  refine fx_v X (fx_runV (As := [.int z0]) X (m_Ins_expect e1 _) hP hD kv_Ins_92 ⟨Nat.le_of_ble_eq_true rfl, Nat.le_of_ble_eq_true rfl⟩ 10 rfl rfl rfl hl.1 rfl (Nat.le_of_ble_eq_true rfl) d_Ins_inspectNode_49) hD hS (fun H locs hP hD hS => ?_)
  refine lv_aload_n hx hb d_Ins_inspectNode_52 rfl (lv_at hl 0 rfl) ?_
  refine lv_iload_n hx hb d_Ins_inspectNode_53 rfl (lv_at hl 3 rfl) ?_
  refine lv_if_ne (tgt := 71) hx hb d_Ins_inspectNode_54 (by decide) (fun hc => ?_) (fun hc => ?_)
  · have h := if_f hc h
    refine lv_iload hx hb d_Ins_inspectNode_71 (lv_at hl 4 rfl) ?_
    refine lv_iconst (v := 1) hx hb d_Ins_inspectNode_73 (by decide) ?_
    refine lv_icmp_lt (tgt := 96) hx hb d_Ins_inspectNode_74 (by decide) (fun hc => ?_) (fun hc => ?_)
    · have h := if_t hc h
      exact v_Ins_inspectNode_96 X  hP hD hS (lv_sub hl [0, 1, 2, 3, 4] rfl) h
    · have h := if_f hc h
      refine lv_iload hx hb d_Ins_inspectNode_77 (lv_at hl 4 rfl) ?_
      refine lv_sipush (v := 250) hx hb d_Ins_inspectNode_79 (by decide) ?_
      refine lv_icmp_gt (tgt := 96) hx hb d_Ins_inspectNode_82 (by decide) (fun hc => ?_) (fun hc => ?_)
      · have h := if_t hc h
        exact v_Ins_inspectNode_96 X  hP hD hS (lv_sub hl [0, 1, 2, 3, 4] rfl) h
      · have h := if_f hc h
        refine lv_iload_n hx hb d_Ins_inspectNode_85 rfl (lv_at hl 1 rfl) ?_
        refine lv_sipush (v := 250) hx hb d_Ins_inspectNode_86 (by decide) ?_
        refine lv_icmp_le (tgt := 96) hx hb d_Ins_inspectNode_89 (by decide) (fun hc => ?_) (fun hc => ?_)
        · have h := if_t hc h
          exact v_Ins_inspectNode_96 X  hP hD hS (lv_sub hl [0, 1, 2, 3, 4] rfl) h
        · have h := if_f hc h
          refine lv_iconst (v := 1) hx hb d_Ins_inspectNode_92 (by decide) ?_
          refine lv_goto (tgt := 97) hx hb d_Ins_inspectNode_93 (by decide) ?_
          exact v_Ins_inspectNode_97 X  hP hD hS (lv_sub hl [0, 1, 2, 3, 4] rfl) h
  · have h := if_t hc h
    refine lv_iload hx hb d_Ins_inspectNode_57 (lv_at hl 4 rfl) ?_
    refine lv_iload_n hx hb d_Ins_inspectNode_59 rfl (lv_at hl 1 rfl) ?_
    refine lv_icmp_ne (tgt := 67) hx hb d_Ins_inspectNode_60 (by decide) (fun hc => ?_) (fun hc => ?_)
    · have h := if_f hc h
      refine lv_iconst (v := 0) hx hb d_Ins_inspectNode_67 (by decide) ?_
      refine lv_goto (tgt := 97) hx hb d_Ins_inspectNode_68 (by decide) ?_
      exact v_Ins_inspectNode_97 X  hP hD hS (lv_sub hl [0, 1, 2, 3, 4] rfl) h
    · have h := if_t hc h
      refine lv_iconst (v := 1) hx hb d_Ins_inspectNode_63 (by decide) ?_
      refine lv_goto (tgt := 97) hx hb d_Ins_inspectNode_64 (by decide) ?_
      exact v_Ins_inspectNode_97 X  hP hD hS (lv_sub hl [0, 1, 2, 3, 4] rfl) h
set_option maxHeartbeats 4000000 in
set_option maxRecDepth 100000 in
theorem m_Ins_inspectNode {l : Launch} {D : va_G} {ad : Nat → Nat} {ca : Nat → ClassId} {FU : Nat} {x1 : Int32} {x2 : Int32} {g : St} {q : St} (h : Ins_inspectNode FU x1 x2 g = some q) : CV l ⟨"FlashFiles$Inspector", "inspectNode", "(II)V"⟩ prog_6_method_6_code 8 4 D (tyF ca) (wF ad ca g) [.ref (ad 10), .int x1, .int x2] (wF ad ca q) := by
  intro sz
  refine Met.fx (Qc := fun A => fxQv D (tyF ca) A (wF ad ca q)) (by decide) (Nat.le_of_ble_eq_true rfl) ?_
  intro p e s m below meth c A ls X hP hD hl
  have hl : lv_has ls 8 [(0, .ref (ad 10)), (1, .int x1), (2, .int x2)] := hl
  have hS : va_S A s.heap s.heap [] := va_S.rf
  have hx := X.1
  have hb := X.2.1
  unfold Ins_inspectNode at h
  refine lv_aload_n hx hb d_Ins_inspectNode_0 rfl (lv_at hl 0 rfl) ?_
  refine gF_ins_device X hP d_Ins_inspectNode_1 ?_
  refine lv_iload_n hx hb d_Ins_inspectNode_4 rfl (lv_at hl 2 rfl) ?_
  refine lv_bipush (v := 58) hx hb d_Ins_inspectNode_5 (by decide) ?_
  obtain ⟨v13, e1, h⟩ := bd_some h
  refine fx_i X (fx_runV (As := [.int x2, .int (58 : Int32)]) X (m_Dev_word e1 _) hP hD kv_Ins_103 ⟨Nat.le_of_ble_eq_true rfl, Nat.le_of_ble_eq_true rfl⟩ 3 rfl rfl rfl hl.1 rfl (Nat.le_of_ble_eq_true rfl) d_Ins_inspectNode_7) hD hS (fun H locs hP hD hS => ?_)
  refine lv_istore_n hx hb d_Ins_inspectNode_10 rfl hl (by decide) rfl (fun ls hl => ?_)
  have hl : lv_has ls 8 [(3, .int v13), (0, .ref (ad 10)), (1, .int x1), (2, .int x2)] := hl
  refine lv_aload_n hx hb d_Ins_inspectNode_11 rfl (lv_at hl 1 rfl) ?_
  refine gF_ins_device X hP d_Ins_inspectNode_12 ?_
  refine lv_iload_n hx hb d_Ins_inspectNode_15 rfl (lv_at hl 3 rfl) ?_
  refine lv_bipush (v := 61) hx hb d_Ins_inspectNode_16 (by decide) ?_
  obtain ⟨v14, e1, h⟩ := bd_some h
  refine fx_i X (fx_runV (As := [.int x2, .int (61 : Int32)]) X (m_Dev_word e1 _) hP hD kv_Ins_103 ⟨Nat.le_of_ble_eq_true rfl, Nat.le_of_ble_eq_true rfl⟩ 3 rfl rfl rfl hl.1 rfl (Nat.le_of_ble_eq_true rfl) d_Ins_inspectNode_18) hD hS (fun H locs hP hD hS => ?_)
  refine lv_istore hx hb d_Ins_inspectNode_21 hl (by decide) rfl (fun ls hl => ?_)
  have hl : lv_has ls 8 [(4, .int v14), (3, .int v13), (0, .ref (ad 10)), (1, .int x1), (2, .int x2)] := hl
  refine lv_aload_n hx hb d_Ins_inspectNode_23 rfl (lv_at hl 2 rfl) ?_
  refine lv_iload_n hx hb d_Ins_inspectNode_24 rfl (lv_at hl 4 rfl) ?_
  refine lv_iconst (v := 1) hx hb d_Ins_inspectNode_25 (by decide) ?_
  obtain ⟨p15, e1, h⟩ := bd_some h
  refine fx_v X (fx_runV (As := [.int x2, .int (1 : Int32)]) X (m_Ins_own e1 _) hP hD kv_Ins_106 ⟨Nat.le_of_ble_eq_true rfl, Nat.le_of_ble_eq_true rfl⟩ 10 rfl rfl rfl hl.1 rfl (Nat.le_of_ble_eq_true rfl) d_Ins_inspectNode_26) hD hS (fun H locs hP hD hS => ?_)
  refine lv_aload_n hx hb d_Ins_inspectNode_29 rfl (lv_at hl 2 rfl) ?_
  refine lv_aload_n hx hb d_Ins_inspectNode_30 rfl (lv_at hl 2 rfl) ?_
  refine gF_ins_device X hP d_Ins_inspectNode_31 ?_
  refine lv_iload_n hx hb d_Ins_inspectNode_34 rfl (lv_at hl 4 rfl) ?_
  refine lv_bipush (v := 60) hx hb d_Ins_inspectNode_35 (by decide) ?_
  obtain ⟨v16, e1, h⟩ := bd_some h
  refine fx_i X (fx_runV (As := [.int x2, .int (60 : Int32)]) X (m_Dev_word e1 _) hP hD kv_Ins_103 ⟨Nat.le_of_ble_eq_true rfl, Nat.le_of_ble_eq_true rfl⟩ 3 rfl rfl rfl hl.1 rfl (Nat.le_of_ble_eq_true rfl) d_Ins_inspectNode_37) hD hS (fun H locs hP hD hS => ?_)
  refine lv_iload_n hx hb d_Ins_inspectNode_40 rfl (lv_at hl 3 rfl) ?_
  refine lv_icmp_ne (tgt := 48) hx hb d_Ins_inspectNode_41 (by decide) (fun hc => ?_) (fun hc => ?_)
  · have h := if_f hc h
    refine lv_iconst (v := 0) hx hb d_Ins_inspectNode_48 (by decide) ?_
    exact v_Ins_inspectNode_49 X  hP hD hS (lv_sub hl [2, 3, 4, 1, 0] rfl) h
  · have h := if_t hc h
    refine lv_iconst (v := 1) hx hb d_Ins_inspectNode_44 (by decide) ?_
    refine lv_goto (tgt := 49) hx hb d_Ins_inspectNode_45 (by decide) ?_
    exact v_Ins_inspectNode_49 X  hP hD hS (lv_sub hl [2, 3, 4, 1, 0] rfl) h
theorem d_Ins_inspectSegment_0 : decode prog_6_method_12_code 0 = .ok (.iconst 0, 1) := by decide +kernel
theorem d_Ins_inspectSegment_1 : decode prog_6_method_12_code 1 = .ok (.istore_n 2, 1) := by decide +kernel
theorem d_Ins_inspectSegment_2 : decode prog_6_method_12_code 2 = .ok (.iconst 0, 1) := by decide +kernel
theorem d_Ins_inspectSegment_3 : decode prog_6_method_12_code 3 = .ok (.istore_n 3, 1) := by decide +kernel
theorem d_Ins_inspectSegment_4 : decode prog_6_method_12_code 4 = .ok (.iload_n 1, 1) := by decide +kernel
theorem d_Ins_inspectSegment_5 : decode prog_6_method_12_code 5 = .ok (.invokestatic 142, 3) := by decide +kernel
theorem d_Ins_inspectSegment_8 : decode prog_6_method_12_code 8 = .ok (.istore 4, 2) := by decide +kernel
theorem d_Ins_inspectSegment_10 : decode prog_6_method_12_code 10 = .ok (.iload 4, 2) := by decide +kernel
theorem d_Ins_inspectSegment_12 : decode prog_6_method_12_code 12 = .ok (.iload_n 1, 1) := by decide +kernel
theorem d_Ins_inspectSegment_13 : decode prog_6_method_12_code 13 = .ok (.iconst 1, 1) := by decide +kernel
theorem d_Ins_inspectSegment_14 : decode prog_6_method_12_code 14 = .ok (.iadd, 1) := by decide +kernel
theorem d_Ins_inspectSegment_15 : decode prog_6_method_12_code 15 = .ok (.invokestatic 142, 3) := by decide +kernel
theorem d_Ins_inspectSegment_18 : decode prog_6_method_12_code 18 = .ok (.if_icmp .ge 75, 3) := by decide +kernel
theorem d_Ins_inspectSegment_21 : decode prog_6_method_12_code 21 = .ok (.aload_n 0, 1) := by decide +kernel
theorem d_Ins_inspectSegment_22 : decode prog_6_method_12_code 22 = .ok (.aload_n 0, 1) := by decide +kernel
theorem d_Ins_inspectSegment_23 : decode prog_6_method_12_code 23 = .ok (.getfield 27, 3) := by decide +kernel
theorem d_Ins_inspectSegment_26 : decode prog_6_method_12_code 26 = .ok (.iload 4, 2) := by decide +kernel
theorem d_Ins_inspectSegment_28 : decode prog_6_method_12_code 28 = .ok (.iaload, 1) := by decide +kernel
theorem d_Ins_inspectSegment_29 : decode prog_6_method_12_code 29 = .ok (.aload_n 0, 1) := by decide +kernel
theorem d_Ins_inspectSegment_30 : decode prog_6_method_12_code 30 = .ok (.getfield 19, 3) := by decide +kernel
theorem d_Ins_inspectSegment_33 : decode prog_6_method_12_code 33 = .ok (.iload 4, 2) := by decide +kernel
theorem d_Ins_inspectSegment_35 : decode prog_6_method_12_code 35 = .ok (.invokevirtual 145, 3) := by decide +kernel
theorem d_Ins_inspectSegment_38 : decode prog_6_method_12_code 38 = .ok (.if_icmp .ne 7, 3) := by decide +kernel
theorem d_Ins_inspectSegment_41 : decode prog_6_method_12_code 41 = .ok (.iconst 1, 1) := by decide +kernel
theorem d_Ins_inspectSegment_42 : decode prog_6_method_12_code 42 = .ok (.goto 4, 3) := by decide +kernel
theorem d_Ins_inspectSegment_45 : decode prog_6_method_12_code 45 = .ok (.iconst 0, 1) := by decide +kernel
theorem d_Ins_inspectSegment_46 : decode prog_6_method_12_code 46 = .ok (.invokevirtual 92, 3) := by decide +kernel
theorem d_Ins_inspectSegment_49 : decode prog_6_method_12_code 49 = .ok (.iload_n 2, 1) := by decide +kernel
theorem d_Ins_inspectSegment_50 : decode prog_6_method_12_code 50 = .ok (.aload_n 0, 1) := by decide +kernel
theorem d_Ins_inspectSegment_51 : decode prog_6_method_12_code 51 = .ok (.getfield 27, 3) := by decide +kernel
theorem d_Ins_inspectSegment_54 : decode prog_6_method_12_code 54 = .ok (.iload 4, 2) := by decide +kernel
theorem d_Ins_inspectSegment_56 : decode prog_6_method_12_code 56 = .ok (.iaload, 1) := by decide +kernel
theorem d_Ins_inspectSegment_57 : decode prog_6_method_12_code 57 = .ok (.iconst 1, 1) := by decide +kernel
theorem d_Ins_inspectSegment_58 : decode prog_6_method_12_code 58 = .ok (.if_icmp .ne 7, 3) := by decide +kernel
theorem d_Ins_inspectSegment_61 : decode prog_6_method_12_code 61 = .ok (.iconst 1, 1) := by decide +kernel
theorem d_Ins_inspectSegment_62 : decode prog_6_method_12_code 62 = .ok (.goto 4, 3) := by decide +kernel
theorem d_Ins_inspectSegment_65 : decode prog_6_method_12_code 65 = .ok (.iconst 0, 1) := by decide +kernel
theorem d_Ins_inspectSegment_66 : decode prog_6_method_12_code 66 = .ok (.iadd, 1) := by decide +kernel
theorem d_Ins_inspectSegment_67 : decode prog_6_method_12_code 67 = .ok (.istore_n 2, 1) := by decide +kernel
theorem d_Ins_inspectSegment_68 : decode prog_6_method_12_code 68 = .ok (.iload_n 3, 1) := by decide +kernel
theorem d_Ins_inspectSegment_69 : decode prog_6_method_12_code 69 = .ok (.aload_n 0, 1) := by decide +kernel
theorem d_Ins_inspectSegment_70 : decode prog_6_method_12_code 70 = .ok (.getfield 27, 3) := by decide +kernel
theorem d_Ins_inspectSegment_73 : decode prog_6_method_12_code 73 = .ok (.iload 4, 2) := by decide +kernel
theorem d_Ins_inspectSegment_75 : decode prog_6_method_12_code 75 = .ok (.iaload, 1) := by decide +kernel
theorem d_Ins_inspectSegment_76 : decode prog_6_method_12_code 76 = .ok (.iconst 2, 1) := by decide +kernel
theorem d_Ins_inspectSegment_77 : decode prog_6_method_12_code 77 = .ok (.if_icmp .ne 7, 3) := by decide +kernel
theorem d_Ins_inspectSegment_80 : decode prog_6_method_12_code 80 = .ok (.iconst 1, 1) := by decide +kernel
theorem d_Ins_inspectSegment_81 : decode prog_6_method_12_code 81 = .ok (.goto 4, 3) := by decide +kernel
theorem d_Ins_inspectSegment_84 : decode prog_6_method_12_code 84 = .ok (.iconst 0, 1) := by decide +kernel
theorem d_Ins_inspectSegment_85 : decode prog_6_method_12_code 85 = .ok (.iadd, 1) := by decide +kernel
theorem d_Ins_inspectSegment_86 : decode prog_6_method_12_code 86 = .ok (.istore_n 3, 1) := by decide +kernel
theorem d_Ins_inspectSegment_87 : decode prog_6_method_12_code 87 = .ok (.iinc 4 1, 3) := by decide +kernel
theorem d_Ins_inspectSegment_90 : decode prog_6_method_12_code 90 = .ok (.goto (-80), 3) := by decide +kernel
theorem d_Ins_inspectSegment_93 : decode prog_6_method_12_code 93 = .ok (.aload_n 0, 1) := by decide +kernel
theorem d_Ins_inspectSegment_94 : decode prog_6_method_12_code 94 = .ok (.iload_n 2, 1) := by decide +kernel
theorem d_Ins_inspectSegment_95 : decode prog_6_method_12_code 95 = .ok (.aload_n 0, 1) := by decide +kernel
theorem d_Ins_inspectSegment_96 : decode prog_6_method_12_code 96 = .ok (.getfield 19, 3) := by decide +kernel
theorem d_Ins_inspectSegment_99 : decode prog_6_method_12_code 99 = .ok (.iload_n 1, 1) := by decide +kernel
theorem d_Ins_inspectSegment_100 : decode prog_6_method_12_code 100 = .ok (.invokevirtual 148, 3) := by decide +kernel
theorem d_Ins_inspectSegment_103 : decode prog_6_method_12_code 103 = .ok (.if_icmp .ne 19, 3) := by decide +kernel
theorem d_Ins_inspectSegment_106 : decode prog_6_method_12_code 106 = .ok (.iload_n 3, 1) := by decide +kernel
theorem d_Ins_inspectSegment_107 : decode prog_6_method_12_code 107 = .ok (.aload_n 0, 1) := by decide +kernel
theorem d_Ins_inspectSegment_108 : decode prog_6_method_12_code 108 = .ok (.getfield 19, 3) := by decide +kernel
theorem d_Ins_inspectSegment_111 : decode prog_6_method_12_code 111 = .ok (.iload_n 1, 1) := by decide +kernel
theorem d_Ins_inspectSegment_112 : decode prog_6_method_12_code 112 = .ok (.invokevirtual 151, 3) := by decide +kernel
theorem d_Ins_inspectSegment_115 : decode prog_6_method_12_code 115 = .ok (.if_icmp .ne 7, 3) := by decide +kernel
theorem d_Ins_inspectSegment_118 : decode prog_6_method_12_code 118 = .ok (.iconst 1, 1) := by decide +kernel
theorem d_Ins_inspectSegment_119 : decode prog_6_method_12_code 119 = .ok (.goto 4, 3) := by decide +kernel
theorem d_Ins_inspectSegment_122 : decode prog_6_method_12_code 122 = .ok (.iconst 0, 1) := by decide +kernel
theorem d_Ins_inspectSegment_123 : decode prog_6_method_12_code 123 = .ok (.invokevirtual 92, 3) := by decide +kernel
theorem d_Ins_inspectSegment_126 : decode prog_6_method_12_code 126 = .ok (.aload_n 0, 1) := by decide +kernel
theorem d_Ins_inspectSegment_127 : decode prog_6_method_12_code 127 = .ok (.aload_n 0, 1) := by decide +kernel
theorem d_Ins_inspectSegment_128 : decode prog_6_method_12_code 128 = .ok (.getfield 19, 3) := by decide +kernel
theorem d_Ins_inspectSegment_131 : decode prog_6_method_12_code 131 = .ok (.iload_n 1, 1) := by decide +kernel
theorem d_Ins_inspectSegment_132 : decode prog_6_method_12_code 132 = .ok (.invokevirtual 154, 3) := by decide +kernel
theorem d_Ins_inspectSegment_135 : decode prog_6_method_12_code 135 = .ok (.ifCond .eq 9, 3) := by decide +kernel
theorem d_Ins_inspectSegment_138 : decode prog_6_method_12_code 138 = .ok (.iload_n 2, 1) := by decide +kernel
theorem d_Ins_inspectSegment_139 : decode prog_6_method_12_code 139 = .ok (.iload_n 3, 1) := by decide +kernel
theorem d_Ins_inspectSegment_140 : decode prog_6_method_12_code 140 = .ok (.iadd, 1) := by decide +kernel
theorem d_Ins_inspectSegment_141 : decode prog_6_method_12_code 141 = .ok (.ifCond .ne 7, 3) := by decide +kernel
theorem d_Ins_inspectSegment_144 : decode prog_6_method_12_code 144 = .ok (.iconst 1, 1) := by decide +kernel
theorem d_Ins_inspectSegment_145 : decode prog_6_method_12_code 145 = .ok (.goto 4, 3) := by decide +kernel
theorem d_Ins_inspectSegment_148 : decode prog_6_method_12_code 148 = .ok (.iconst 0, 1) := by decide +kernel
theorem d_Ins_inspectSegment_149 : decode prog_6_method_12_code 149 = .ok (.invokevirtual 92, 3) := by decide +kernel
theorem d_Ins_inspectSegment_152 : decode prog_6_method_12_code 152 = .ok (.return_, 1) := by decide +kernel
set_option maxHeartbeats 4000000 in
set_option maxRecDepth 100000 in
theorem v_Ins_inspectSegment_149 {p : Program} {l : Launch} {e : Env} {s : State} {m : MethodId} {args : Array Value} {below : List Frame} {meth : Method} {c : Code} {D : va_G} {ad : Nat → Nat} {ca : Nat → ClassId} {A : Nat → Prop} {FU : Nat} {q : St} (X : FX p s m meth c prog_6_method_12_code 5 none "FlashFiles$Inspector" D (tyF ca) A) {z0 : Int32} {g : St} {H : Heap} {locs : List Loc} {ls : Array Slot} (hP : va_P D cls (wF ad ca g) H) (hD : va_D A (wF ad ca g)) (hS : va_S A s.heap H locs) (hl : lv_has ls 5 []) (h : Ins_inspectSegment_b149 FU z0 g = some q) : W p l e (rmN 2) s m args below meth c H locs 0 0 (MQ below (fxQv D (tyF ca) A (wF ad ca q)) args s 0 0 A) (F0 m 149 ls [.int z0, .ref (ad 10)]) := by
  have hx := X.1
  have hb := X.2.1
  unfold Ins_inspectSegment_b149 at h
  obtain ⟨p1, e1, h⟩ := bd_some h
  refine fx_v X (fx_runV (As := [.int z0]) X (m_Ins_expect e1 _) hP hD kv_Ins_92 ⟨Nat.le_of_ble_eq_true rfl, Nat.le_of_ble_eq_true rfl⟩ 10 rfl rfl rfl hl.1 rfl (Nat.le_of_ble_eq_true rfl) d_Ins_inspectSegment_149) hD hS (fun H locs hP hD hS => ?_)
  cases h
  exact fx_vret X hP hD hS d_Ins_inspectSegment_152
set_option maxHeartbeats 4000000 in
set_option maxRecDepth 100000 in
theorem v_Ins_inspectSegment_144 {p : Program} {l : Launch} {e : Env} {s : State} {m : MethodId} {args : Array Value} {below : List Frame} {meth : Method} {c : Code} {D : va_G} {ad : Nat → Nat} {ca : Nat → ClassId} {A : Nat → Prop} {FU : Nat} {q : St} (X : FX p s m meth c prog_6_method_12_code 5 none "FlashFiles$Inspector" D (tyF ca) A)  {g : St} {H : Heap} {locs : List Loc} {ls : Array Slot} (hP : va_P D cls (wF ad ca g) H) (hD : va_D A (wF ad ca g)) (hS : va_S A s.heap H locs) (hl : lv_has ls 5 []) (h : Ins_inspectSegment_b144 FU g = some q) : W p l e (rmN 2) s m args below meth c H locs 0 0 (MQ below (fxQv D (tyF ca) A (wF ad ca q)) args s 0 0 A) (F0 m 144 ls [.ref (ad 10)]) := by
  have hx := X.1
  have hb := X.2.1
  unfold Ins_inspectSegment_b144 at h
  refine lv_iconst (v := 1) hx hb d_Ins_inspectSegment_144 (by decide) ?_
  refine lv_goto (tgt := 149) hx hb d_Ins_inspectSegment_145 (by decide) ?_
  exact v_Ins_inspectSegment_149 X  hP hD hS (lv_sub hl [] rfl) h
set_option maxHeartbeats 4000000 in
set_option maxRecDepth 100000 in
theorem v_Ins_inspectSegment_123 {p : Program} {l : Launch} {e : Env} {s : State} {m : MethodId} {args : Array Value} {below : List Frame} {meth : Method} {c : Code} {D : va_G} {ad : Nat → Nat} {ca : Nat → ClassId} {A : Nat → Prop} {FU : Nat} {q : St} (X : FX p s m meth c prog_6_method_12_code 5 none "FlashFiles$Inspector" D (tyF ca) A) {y1 : Int32} {y2 : Int32} {y3 : Int32} {z0 : Int32} {g : St} {H : Heap} {locs : List Loc} {ls : Array Slot} (hP : va_P D cls (wF ad ca g) H) (hD : va_D A (wF ad ca g)) (hS : va_S A s.heap H locs) (hl : lv_has ls 5 [(0, .ref (ad 10)), (1, .int y1), (2, .int y2), (3, .int y3)]) (h : Ins_inspectSegment_b123 FU y1 y2 y3 z0 g = some q) : W p l e (rmN 2) s m args below meth c H locs 0 0 (MQ below (fxQv D (tyF ca) A (wF ad ca q)) args s 0 0 A) (F0 m 123 ls [.int z0, .ref (ad 10)]) := by
  have hx := X.1
  have hb := X.2.1
  unfold Ins_inspectSegment_b123 at h
  obtain ⟨p2, e1, h⟩ := bd_some h
  refine fx_v X (fx_runV (As := [.int z0]) X (m_Ins_expect e1 _) hP hD kv_Ins_92 ⟨Nat.le_of_ble_eq_true rfl, Nat.le_of_ble_eq_true rfl⟩ 10 rfl rfl rfl hl.1 rfl (Nat.le_of_ble_eq_true rfl) d_Ins_inspectSegment_123) hD hS (fun H locs hP hD hS => ?_)
  refine lv_aload_n hx hb d_Ins_inspectSegment_126 rfl (lv_at hl 0 rfl) ?_
  refine lv_aload_n hx hb d_Ins_inspectSegment_127 rfl (lv_at hl 0 rfl) ?_
  refine gF_ins_log X hP d_Ins_inspectSegment_128 ?_
  refine lv_iload_n hx hb d_Ins_inspectSegment_131 rfl (lv_at hl 1 rfl) ?_
  obtain ⟨v3, e1, h⟩ := bd_some h
  refine fx_i X (fx_runV (As := [.int y1]) X (m_Log_isFree e1 _) hP hD kv_Ins_154 ⟨Nat.le_of_ble_eq_true rfl, Nat.le_of_ble_eq_true rfl⟩ 5 rfl rfl rfl hl.1 rfl (Nat.le_of_ble_eq_true rfl) d_Ins_inspectSegment_132) hD hS (fun H locs hP hD hS => ?_)
  refine lv_if_eq (tgt := 144) hx hb d_Ins_inspectSegment_135 (by decide) (fun hc => ?_) (fun hc => ?_)
  · have h := if_t hc h
    exact v_Ins_inspectSegment_144 X  hP hD hS (lv_sub hl [] rfl) h
  · have h := if_f hc h
    refine lv_iload_n hx hb d_Ins_inspectSegment_138 rfl (lv_at hl 2 rfl) ?_
    refine lv_iload_n hx hb d_Ins_inspectSegment_139 rfl (lv_at hl 3 rfl) ?_
    refine lv_iadd hx hb d_Ins_inspectSegment_140 ?_
    refine lv_if_ne (tgt := 148) hx hb d_Ins_inspectSegment_141 (by decide) (fun hc => ?_) (fun hc => ?_)
    · have h := if_f hc h
      refine lv_iconst (v := 0) hx hb d_Ins_inspectSegment_148 (by decide) ?_
      exact v_Ins_inspectSegment_149 X  hP hD hS (lv_sub hl [] rfl) h
    · have h := if_t hc h
      exact v_Ins_inspectSegment_144 X  hP hD hS (lv_sub hl [] rfl) h
set_option maxHeartbeats 4000000 in
set_option maxRecDepth 100000 in
theorem v_Ins_inspectSegment_122 {p : Program} {l : Launch} {e : Env} {s : State} {m : MethodId} {args : Array Value} {below : List Frame} {meth : Method} {c : Code} {D : va_G} {ad : Nat → Nat} {ca : Nat → ClassId} {A : Nat → Prop} {FU : Nat} {q : St} (X : FX p s m meth c prog_6_method_12_code 5 none "FlashFiles$Inspector" D (tyF ca) A) {y1 : Int32} {y2 : Int32} {y3 : Int32} {g : St} {H : Heap} {locs : List Loc} {ls : Array Slot} (hP : va_P D cls (wF ad ca g) H) (hD : va_D A (wF ad ca g)) (hS : va_S A s.heap H locs) (hl : lv_has ls 5 [(0, .ref (ad 10)), (1, .int y1), (2, .int y2), (3, .int y3)]) (h : Ins_inspectSegment_b122 FU y1 y2 y3 g = some q) : W p l e (rmN 2) s m args below meth c H locs 0 0 (MQ below (fxQv D (tyF ca) A (wF ad ca q)) args s 0 0 A) (F0 m 122 ls [.ref (ad 10)]) := by
  have hx := X.1
  have hb := X.2.1
  unfold Ins_inspectSegment_b122 at h
  refine lv_iconst (v := 0) hx hb d_Ins_inspectSegment_122 (by decide) ?_
  exact v_Ins_inspectSegment_123 X  hP hD hS (lv_sub hl [0, 1, 2, 3] rfl) h
set_option maxHeartbeats 4000000 in
set_option maxRecDepth 100000 in
theorem v_Ins_inspectSegment_85 {p : Program} {l : Launch} {e : Env} {s : State} {m : MethodId} {args : Array Value} {below : List Frame} {meth : Method} {c : Code} {D : va_G} {ad : Nat → Nat} {ca : Nat → ClassId} {A : Nat → Prop} {FU : Nat} {q : St} (X : FX p s m meth c prog_6_method_12_code 5 none "FlashFiles$Inspector" D (tyF ca) A) {k10 : Int32 → Int32 → Int32 → Int32 → St → Option (St)} (hk10 : ∀ (y1 y2 y3 y4 : Int32) (g : St) (H : Heap) (locs : List Loc) (ls : Array Slot), va_P D cls (wF ad ca g) H → va_D A (wF ad ca g) → va_S A s.heap H locs → lv_has ls 5 [(0, .ref (ad 10)), (1, .int y1), (2, .int y2), (3, .int y3), (4, .int y4)] → k10 y1 y2 y3 y4 g = some q → W p l e (rmN 2) s m args below meth c H locs 0 0 (MQ below (fxQv D (tyF ca) A (wF ad ca q)) args s 0 0 A) (F0 m 10 ls [])) {y1 : Int32} {y2 : Int32} {y4 : Int32} {z0 : Int32} {z1 : Int32} {g : St} {H : Heap} {locs : List Loc} {ls : Array Slot} (hP : va_P D cls (wF ad ca g) H) (hD : va_D A (wF ad ca g)) (hS : va_S A s.heap H locs) (hl : lv_has ls 5 [(0, .ref (ad 10)), (1, .int y1), (2, .int y2), (4, .int y4)]) (h : Ins_inspectSegment_b85 FU k10 y1 y2 y4 z0 z1 g = some q) : W p l e (rmN 2) s m args below meth c H locs 0 0 (MQ below (fxQv D (tyF ca) A (wF ad ca q)) args s 0 0 A) (F0 m 85 ls [.int z0, .int z1]) := by
  have hx := X.1
  have hb := X.2.1
  unfold Ins_inspectSegment_b85 at h
  refine lv_iadd hx hb d_Ins_inspectSegment_85 ?_
  refine lv_istore_n hx hb d_Ins_inspectSegment_86 rfl hl (by decide) rfl (fun ls hl => ?_)
  have hl : lv_has ls 5 [(3, .int (z1 + z0)), (0, .ref (ad 10)), (1, .int y1), (2, .int y2), (4, .int y4)] := hl
  refine lv_iinc (k := 4) (v := (y4 + (1 : Int32))) hx hb d_Ins_inspectSegment_87 hl rfl (oi_1 _) (by decide) rfl (fun ls hl => ?_)
  have hl : lv_has ls 5 [(4, .int (y4 + (1 : Int32))), (3, .int (z1 + z0)), (0, .ref (ad 10)), (1, .int y1), (2, .int y2)] := hl
  refine lv_goto (tgt := 10) hx hb d_Ins_inspectSegment_90 (by decide) ?_
  exact hk10 _ _ _ _ _ _ _ _ hP hD hS (lv_sub hl [2, 3, 4, 1, 0] rfl) h
set_option maxHeartbeats 4000000 in
set_option maxRecDepth 100000 in
theorem v_Ins_inspectSegment_66 {p : Program} {l : Launch} {e : Env} {s : State} {m : MethodId} {args : Array Value} {below : List Frame} {meth : Method} {c : Code} {D : va_G} {ad : Nat → Nat} {ca : Nat → ClassId} {A : Nat → Prop} {FU : Nat} {q : St} (X : FX p s m meth c prog_6_method_12_code 5 none "FlashFiles$Inspector" D (tyF ca) A) {k10 : Int32 → Int32 → Int32 → Int32 → St → Option (St)} (hk10 : ∀ (y1 y2 y3 y4 : Int32) (g : St) (H : Heap) (locs : List Loc) (ls : Array Slot), va_P D cls (wF ad ca g) H → va_D A (wF ad ca g) → va_S A s.heap H locs → lv_has ls 5 [(0, .ref (ad 10)), (1, .int y1), (2, .int y2), (3, .int y3), (4, .int y4)] → k10 y1 y2 y3 y4 g = some q → W p l e (rmN 2) s m args below meth c H locs 0 0 (MQ below (fxQv D (tyF ca) A (wF ad ca q)) args s 0 0 A) (F0 m 10 ls [])) {y1 : Int32} {y3 : Int32} {y4 : Int32} {z0 : Int32} {z1 : Int32} {g : St} {H : Heap} {locs : List Loc} {ls : Array Slot} (hP : va_P D cls (wF ad ca g) H) (hD : va_D A (wF ad ca g)) (hS : va_S A s.heap H locs) (hl : lv_has ls 5 [(0, .ref (ad 10)), (1, .int y1), (3, .int y3), (4, .int y4)]) (h : Ins_inspectSegment_b66 FU k10 y1 y3 y4 z0 z1 g = some q) : W p l e (rmN 2) s m args below meth c H locs 0 0 (MQ below (fxQv D (tyF ca) A (wF ad ca q)) args s 0 0 A) (F0 m 66 ls [.int z0, .int z1]) := by
  have hx := X.1
  have hb := X.2.1
  unfold Ins_inspectSegment_b66 at h
  refine lv_iadd hx hb d_Ins_inspectSegment_66 ?_
  refine lv_istore_n hx hb d_Ins_inspectSegment_67 rfl hl (by decide) rfl (fun ls hl => ?_)
  have hl : lv_has ls 5 [(2, .int (z1 + z0)), (0, .ref (ad 10)), (1, .int y1), (3, .int y3), (4, .int y4)] := hl
  refine lv_iload_n hx hb d_Ins_inspectSegment_68 rfl (lv_at hl 3 rfl) ?_
  refine lv_aload_n hx hb d_Ins_inspectSegment_69 rfl (lv_at hl 1 rfl) ?_
  refine gF_ins_owned X hP d_Ins_inspectSegment_70 ?_
  refine lv_iload hx hb d_Ins_inspectSegment_73 (lv_at hl 4 rfl) ?_
  obtain ⟨v4, e1, h⟩ := bd_some h
  refine rF_24 X hP e1 d_Ins_inspectSegment_75 ?_
  refine lv_iconst (v := 2) hx hb d_Ins_inspectSegment_76 (by decide) ?_
  refine lv_icmp_ne (tgt := 84) hx hb d_Ins_inspectSegment_77 (by decide) (fun hc => ?_) (fun hc => ?_)
  · have h := if_f hc h
    refine lv_iconst (v := 0) hx hb d_Ins_inspectSegment_84 (by decide) ?_
    exact v_Ins_inspectSegment_85 X hk10 hP hD hS (lv_sub hl [1, 2, 0, 4] rfl) h
  · have h := if_t hc h
    refine lv_iconst (v := 1) hx hb d_Ins_inspectSegment_80 (by decide) ?_
    refine lv_goto (tgt := 85) hx hb d_Ins_inspectSegment_81 (by decide) ?_
    exact v_Ins_inspectSegment_85 X hk10 hP hD hS (lv_sub hl [1, 2, 0, 4] rfl) h
set_option maxHeartbeats 4000000 in
set_option maxRecDepth 100000 in
theorem v_Ins_inspectSegment_46 {p : Program} {l : Launch} {e : Env} {s : State} {m : MethodId} {args : Array Value} {below : List Frame} {meth : Method} {c : Code} {D : va_G} {ad : Nat → Nat} {ca : Nat → ClassId} {A : Nat → Prop} {FU : Nat} {q : St} (X : FX p s m meth c prog_6_method_12_code 5 none "FlashFiles$Inspector" D (tyF ca) A) {k10 : Int32 → Int32 → Int32 → Int32 → St → Option (St)} (hk10 : ∀ (y1 y2 y3 y4 : Int32) (g : St) (H : Heap) (locs : List Loc) (ls : Array Slot), va_P D cls (wF ad ca g) H → va_D A (wF ad ca g) → va_S A s.heap H locs → lv_has ls 5 [(0, .ref (ad 10)), (1, .int y1), (2, .int y2), (3, .int y3), (4, .int y4)] → k10 y1 y2 y3 y4 g = some q → W p l e (rmN 2) s m args below meth c H locs 0 0 (MQ below (fxQv D (tyF ca) A (wF ad ca q)) args s 0 0 A) (F0 m 10 ls [])) {y1 : Int32} {y2 : Int32} {y3 : Int32} {y4 : Int32} {z0 : Int32} {g : St} {H : Heap} {locs : List Loc} {ls : Array Slot} (hP : va_P D cls (wF ad ca g) H) (hD : va_D A (wF ad ca g)) (hS : va_S A s.heap H locs) (hl : lv_has ls 5 [(0, .ref (ad 10)), (1, .int y1), (2, .int y2), (3, .int y3), (4, .int y4)]) (h : Ins_inspectSegment_b46 FU k10 y1 y2 y3 y4 z0 g = some q) : W p l e (rmN 2) s m args below meth c H locs 0 0 (MQ below (fxQv D (tyF ca) A (wF ad ca q)) args s 0 0 A) (F0 m 46 ls [.int z0, .ref (ad 10)]) := by
  have hx := X.1
  have hb := X.2.1
  unfold Ins_inspectSegment_b46 at h
  obtain ⟨p5, e1, h⟩ := bd_some h
  refine fx_v X (fx_runV (As := [.int z0]) X (m_Ins_expect e1 _) hP hD kv_Ins_92 ⟨Nat.le_of_ble_eq_true rfl, Nat.le_of_ble_eq_true rfl⟩ 10 rfl rfl rfl hl.1 rfl (Nat.le_of_ble_eq_true rfl) d_Ins_inspectSegment_46) hD hS (fun H locs hP hD hS => ?_)
  refine lv_iload_n hx hb d_Ins_inspectSegment_49 rfl (lv_at hl 2 rfl) ?_
  refine lv_aload_n hx hb d_Ins_inspectSegment_50 rfl (lv_at hl 0 rfl) ?_
  refine gF_ins_owned X hP d_Ins_inspectSegment_51 ?_
  refine lv_iload hx hb d_Ins_inspectSegment_54 (lv_at hl 4 rfl) ?_
  obtain ⟨v6, e1, h⟩ := bd_some h
  refine rF_24 X hP e1 d_Ins_inspectSegment_56 ?_
  refine lv_iconst (v := 1) hx hb d_Ins_inspectSegment_57 (by decide) ?_
  refine lv_icmp_ne (tgt := 65) hx hb d_Ins_inspectSegment_58 (by decide) (fun hc => ?_) (fun hc => ?_)
  · have h := if_f hc h
    refine lv_iconst (v := 0) hx hb d_Ins_inspectSegment_65 (by decide) ?_
    exact v_Ins_inspectSegment_66 X hk10 hP hD hS (lv_sub hl [0, 1, 3, 4] rfl) h
  · have h := if_t hc h
    refine lv_iconst (v := 1) hx hb d_Ins_inspectSegment_61 (by decide) ?_
    refine lv_goto (tgt := 66) hx hb d_Ins_inspectSegment_62 (by decide) ?_
    exact v_Ins_inspectSegment_66 X hk10 hP hD hS (lv_sub hl [0, 1, 3, 4] rfl) h
set_option maxHeartbeats 4000000 in
set_option maxRecDepth 100000 in
theorem v_Ins_inspectSegment_10 {p : Program} {l : Launch} {e : Env} {s : State} {m : MethodId} {args : Array Value} {below : List Frame} {meth : Method} {c : Code} {D : va_G} {ad : Nat → Nat} {ca : Nat → ClassId} {A : Nat → Prop} {FU : Nat} {q : St} (X : FX p s m meth c prog_6_method_12_code 5 none "FlashFiles$Inspector" D (tyF ca) A) : ∀ (n : Nat), ∀ (y1 y2 y3 y4 : Int32) (g : St) (H : Heap) (locs : List Loc) (ls : Array Slot), va_P D cls (wF ad ca g) H → va_D A (wF ad ca g) → va_S A s.heap H locs → lv_has ls 5 [(0, .ref (ad 10)), (1, .int y1), (2, .int y2), (3, .int y3), (4, .int y4)] → Ins_inspectSegment_b10 FU n y1 y2 y3 y4 g = some q → W p l e (rmN 2) s m args below meth c H locs 0 0 (MQ below (fxQv D (tyF ca) A (wF ad ca q)) args s 0 0 A) (F0 m 10 ls []) := by
  have hx := X.1
  have hb := X.2.1
  intro n
  induction n with
  | zero =>
    intro y1 y2 y3 y4 g H locs ls hP hD hS hl h
    cases h
  | succ n ih =>
    intro y1 y2 y3 y4 g H locs ls hP hD hS hl h
    have h := h
    rw [Ins_inspectSegment_b10.eq_2] at h
    refine lv_iload hx hb d_Ins_inspectSegment_10 (lv_at hl 4 rfl) ?_
    refine lv_iload_n hx hb d_Ins_inspectSegment_12 rfl (lv_at hl 1 rfl) ?_
    refine lv_iconst (v := 1) hx hb d_Ins_inspectSegment_13 (by decide) ?_
    refine lv_iadd hx hb d_Ins_inspectSegment_14 ?_
    obtain ⟨v7, e1, h⟩ := bd_some h
    refine fx_i X (fx_runN X (m_FF_firstOf e1 _) (As := [.int (y1 + (1 : Int32))]) hP hD kn_Ins_142 ⟨Nat.le_of_ble_eq_true rfl, Nat.le_of_ble_eq_true rfl⟩ rfl hl.1 rfl (Nat.le_of_ble_eq_true rfl) d_Ins_inspectSegment_15) hD hS (fun H locs hP hD hS => ?_)
    refine lv_icmp_ge (tgt := 93) hx hb d_Ins_inspectSegment_18 (by decide) (fun hc => ?_) (fun hc => ?_)
    · have h := if_t hc h
      refine lv_aload_n hx hb d_Ins_inspectSegment_93 rfl (lv_at hl 0 rfl) ?_
      refine lv_iload_n hx hb d_Ins_inspectSegment_94 rfl (lv_at hl 2 rfl) ?_
      refine lv_aload_n hx hb d_Ins_inspectSegment_95 rfl (lv_at hl 0 rfl) ?_
      refine gF_ins_log X hP d_Ins_inspectSegment_96 ?_
      refine lv_iload_n hx hb d_Ins_inspectSegment_99 rfl (lv_at hl 1 rfl) ?_
      obtain ⟨v8, e1, h⟩ := bd_some h
      refine fx_i X (fx_runV (As := [.int y1]) X (m_Log_nodesIn e1 _) hP hD kv_Ins_148 ⟨Nat.le_of_ble_eq_true rfl, Nat.le_of_ble_eq_true rfl⟩ 5 rfl rfl rfl hl.1 rfl (Nat.le_of_ble_eq_true rfl) d_Ins_inspectSegment_100) hD hS (fun H locs hP hD hS => ?_)
      refine lv_icmp_ne (tgt := 122) hx hb d_Ins_inspectSegment_103 (by decide) (fun hc => ?_) (fun hc => ?_)
      · have h := if_f hc h
        exact v_Ins_inspectSegment_122 X  hP hD hS (lv_sub hl [0, 1, 2, 3] rfl) h
      · have h := if_t hc h
        refine lv_iload_n hx hb d_Ins_inspectSegment_106 rfl (lv_at hl 3 rfl) ?_
        refine lv_aload_n hx hb d_Ins_inspectSegment_107 rfl (lv_at hl 0 rfl) ?_
        refine gF_ins_log X hP d_Ins_inspectSegment_108 ?_
        refine lv_iload_n hx hb d_Ins_inspectSegment_111 rfl (lv_at hl 1 rfl) ?_
        obtain ⟨v9, e1, h⟩ := bd_some h
        refine fx_i X (fx_runV (As := [.int y1]) X (m_Log_dataIn e1 _) hP hD kv_Ins_151 ⟨Nat.le_of_ble_eq_true rfl, Nat.le_of_ble_eq_true rfl⟩ 5 rfl rfl rfl hl.1 rfl (Nat.le_of_ble_eq_true rfl) d_Ins_inspectSegment_112) hD hS (fun H locs hP hD hS => ?_)
        refine lv_icmp_ne (tgt := 122) hx hb d_Ins_inspectSegment_115 (by decide) (fun hc => ?_) (fun hc => ?_)
        · have h := if_f hc h
          exact v_Ins_inspectSegment_122 X  hP hD hS (lv_sub hl [0, 1, 2, 3] rfl) h
        · have h := if_t hc h
          refine lv_iconst (v := 1) hx hb d_Ins_inspectSegment_118 (by decide) ?_
          refine lv_goto (tgt := 123) hx hb d_Ins_inspectSegment_119 (by decide) ?_
          exact v_Ins_inspectSegment_123 X  hP hD hS (lv_sub hl [0, 1, 2, 3] rfl) h
    · have h := if_f hc h
      refine lv_aload_n hx hb d_Ins_inspectSegment_21 rfl (lv_at hl 0 rfl) ?_
      refine lv_aload_n hx hb d_Ins_inspectSegment_22 rfl (lv_at hl 0 rfl) ?_
      refine gF_ins_owned X hP d_Ins_inspectSegment_23 ?_
      refine lv_iload hx hb d_Ins_inspectSegment_26 (lv_at hl 4 rfl) ?_
      obtain ⟨v10, e1, h⟩ := bd_some h
      refine rF_24 X hP e1 d_Ins_inspectSegment_28 ?_
      refine lv_aload_n hx hb d_Ins_inspectSegment_29 rfl (lv_at hl 0 rfl) ?_
      refine gF_ins_log X hP d_Ins_inspectSegment_30 ?_
      refine lv_iload hx hb d_Ins_inspectSegment_33 (lv_at hl 4 rfl) ?_
      obtain ⟨v11, e1, h⟩ := bd_some h
      refine fx_i X (fx_runV (As := [.int y4]) X (m_Log_useOf e1 _) hP hD kv_Ins_145 ⟨Nat.le_of_ble_eq_true rfl, Nat.le_of_ble_eq_true rfl⟩ 5 rfl rfl rfl hl.1 rfl (Nat.le_of_ble_eq_true rfl) d_Ins_inspectSegment_35) hD hS (fun H locs hP hD hS => ?_)
      refine lv_icmp_ne (tgt := 45) hx hb d_Ins_inspectSegment_38 (by decide) (fun hc => ?_) (fun hc => ?_)
      · have h := if_f hc h
        refine lv_iconst (v := 0) hx hb d_Ins_inspectSegment_45 (by decide) ?_
        exact v_Ins_inspectSegment_46 X ih hP hD hS (lv_sub hl [0, 1, 2, 3, 4] rfl) h
      · have h := if_t hc h
        refine lv_iconst (v := 1) hx hb d_Ins_inspectSegment_41 (by decide) ?_
        refine lv_goto (tgt := 46) hx hb d_Ins_inspectSegment_42 (by decide) ?_
        exact v_Ins_inspectSegment_46 X ih hP hD hS (lv_sub hl [0, 1, 2, 3, 4] rfl) h
set_option maxHeartbeats 4000000 in
set_option maxRecDepth 100000 in
theorem m_Ins_inspectSegment {l : Launch} {D : va_G} {ad : Nat → Nat} {ca : Nat → ClassId} {FU : Nat} {x1 : Int32} {g : St} {q : St} (h : Ins_inspectSegment FU x1 g = some q) : CV l ⟨"FlashFiles$Inspector", "inspectSegment", "(I)V"⟩ prog_6_method_12_code 5 2 D (tyF ca) (wF ad ca g) [.ref (ad 10), .int x1] (wF ad ca q) := by
  intro sz
  refine Met.fx (Qc := fun A => fxQv D (tyF ca) A (wF ad ca q)) (by decide) (Nat.le_of_ble_eq_true rfl) ?_
  intro p e s m below meth c A ls X hP hD hl
  have hl : lv_has ls 5 [(0, .ref (ad 10)), (1, .int x1)] := hl
  have hS : va_S A s.heap s.heap [] := va_S.rf
  have hx := X.1
  have hb := X.2.1
  unfold Ins_inspectSegment at h
  refine lv_iconst (v := 0) hx hb d_Ins_inspectSegment_0 (by decide) ?_
  refine lv_istore_n hx hb d_Ins_inspectSegment_1 rfl hl (by decide) rfl (fun ls hl => ?_)
  have hl : lv_has ls 5 [(2, .int (0 : Int32)), (0, .ref (ad 10)), (1, .int x1)] := hl
  refine lv_iconst (v := 0) hx hb d_Ins_inspectSegment_2 (by decide) ?_
  refine lv_istore_n hx hb d_Ins_inspectSegment_3 rfl hl (by decide) rfl (fun ls hl => ?_)
  have hl : lv_has ls 5 [(3, .int (0 : Int32)), (2, .int (0 : Int32)), (0, .ref (ad 10)), (1, .int x1)] := hl
  refine lv_iload_n hx hb d_Ins_inspectSegment_4 rfl (lv_at hl 3 rfl) ?_
  obtain ⟨v12, e1, h⟩ := bd_some h
  refine fx_i X (fx_runN X (m_FF_firstOf e1 _) (As := [.int x1]) hP hD kn_Ins_142 ⟨Nat.le_of_ble_eq_true rfl, Nat.le_of_ble_eq_true rfl⟩ rfl hl.1 rfl (Nat.le_of_ble_eq_true rfl) d_Ins_inspectSegment_5) hD hS (fun H locs hP hD hS => ?_)
  refine lv_istore hx hb d_Ins_inspectSegment_8 hl (by decide) rfl (fun ls hl => ?_)
  have hl : lv_has ls 5 [(4, .int v12), (3, .int (0 : Int32)), (2, .int (0 : Int32)), (0, .ref (ad 10)), (1, .int x1)] := hl
  exact v_Ins_inspectSegment_10 X  _ _ _ _ _ _ _ _ _ hP hD hS (lv_sub hl [3, 4, 2, 1, 0] rfl) h
theorem d_Ins_inspect_0 : decode prog_6_method_2_code 0 = .ok (.aload_n 0, 1) := by decide +kernel
theorem d_Ins_inspect_1 : decode prog_6_method_2_code 1 = .ok (.getfield 27, 3) := by decide +kernel
theorem d_Ins_inspect_4 : decode prog_6_method_2_code 4 = .ok (.iconst 0, 1) := by decide +kernel
theorem d_Ins_inspect_5 : decode prog_6_method_2_code 5 = .ok (.invokestatic 37, 3) := by decide +kernel
theorem d_Ins_inspect_8 : decode prog_6_method_2_code 8 = .ok (.aload_n 0, 1) := by decide +kernel
theorem d_Ins_inspect_9 : decode prog_6_method_2_code 9 = .ok (.getfield 31, 3) := by decide +kernel
theorem d_Ins_inspect_12 : decode prog_6_method_2_code 12 = .ok (.iconst 0, 1) := by decide +kernel
theorem d_Ins_inspect_13 : decode prog_6_method_2_code 13 = .ok (.invokestatic 37, 3) := by decide +kernel
theorem d_Ins_inspect_16 : decode prog_6_method_2_code 16 = .ok (.aload_n 0, 1) := by decide +kernel
theorem d_Ins_inspect_17 : decode prog_6_method_2_code 17 = .ok (.aload_n 0, 1) := by decide +kernel
theorem d_Ins_inspect_18 : decode prog_6_method_2_code 18 = .ok (.getfield 9, 3) := by decide +kernel
theorem d_Ins_inspect_21 : decode prog_6_method_2_code 21 = .ok (.invokevirtual 43, 3) := by decide +kernel
theorem d_Ins_inspect_24 : decode prog_6_method_2_code 24 = .ok (.putfield 49, 3) := by decide +kernel
theorem d_Ins_inspect_27 : decode prog_6_method_2_code 27 = .ok (.iconst 1, 1) := by decide +kernel
theorem d_Ins_inspect_28 : decode prog_6_method_2_code 28 = .ok (.istore_n 1, 1) := by decide +kernel
theorem d_Ins_inspect_29 : decode prog_6_method_2_code 29 = .ok (.iload_n 1, 1) := by decide +kernel
theorem d_Ins_inspect_30 : decode prog_6_method_2_code 30 = .ok (.sipush 2048, 3) := by decide +kernel
theorem d_Ins_inspect_33 : decode prog_6_method_2_code 33 = .ok (.if_icmp .ge 33, 3) := by decide +kernel
theorem d_Ins_inspect_36 : decode prog_6_method_2_code 36 = .ok (.aload_n 0, 1) := by decide +kernel
theorem d_Ins_inspect_37 : decode prog_6_method_2_code 37 = .ok (.getfield 15, 3) := by decide +kernel
theorem d_Ins_inspect_40 : decode prog_6_method_2_code 40 = .ok (.iload_n 1, 1) := by decide +kernel
theorem d_Ins_inspect_41 : decode prog_6_method_2_code 41 = .ok (.invokevirtual 53, 3) := by decide +kernel
theorem d_Ins_inspect_44 : decode prog_6_method_2_code 44 = .ok (.ifCond .eq 16, 3) := by decide +kernel
theorem d_Ins_inspect_47 : decode prog_6_method_2_code 47 = .ok (.aload_n 0, 1) := by decide +kernel
theorem d_Ins_inspect_48 : decode prog_6_method_2_code 48 = .ok (.iload_n 1, 1) := by decide +kernel
theorem d_Ins_inspect_49 : decode prog_6_method_2_code 49 = .ok (.aload_n 0, 1) := by decide +kernel
theorem d_Ins_inspect_50 : decode prog_6_method_2_code 50 = .ok (.getfield 15, 3) := by decide +kernel
theorem d_Ins_inspect_53 : decode prog_6_method_2_code 53 = .ok (.iload_n 1, 1) := by decide +kernel
theorem d_Ins_inspect_54 : decode prog_6_method_2_code 54 = .ok (.invokevirtual 53, 3) := by decide +kernel
theorem d_Ins_inspect_57 : decode prog_6_method_2_code 57 = .ok (.invokevirtual 59, 3) := by decide +kernel
theorem d_Ins_inspect_60 : decode prog_6_method_2_code 60 = .ok (.iinc 1 1, 3) := by decide +kernel
theorem d_Ins_inspect_63 : decode prog_6_method_2_code 63 = .ok (.goto (-34), 3) := by decide +kernel
theorem d_Ins_inspect_66 : decode prog_6_method_2_code 66 = .ok (.iconst 1, 1) := by decide +kernel
theorem d_Ins_inspect_67 : decode prog_6_method_2_code 67 = .ok (.istore_n 1, 1) := by decide +kernel
theorem d_Ins_inspect_68 : decode prog_6_method_2_code 68 = .ok (.iload_n 1, 1) := by decide +kernel
theorem d_Ins_inspect_69 : decode prog_6_method_2_code 69 = .ok (.sipush 2048, 3) := by decide +kernel
theorem d_Ins_inspect_72 : decode prog_6_method_2_code 72 = .ok (.if_icmp .ge 22, 3) := by decide +kernel
theorem d_Ins_inspect_75 : decode prog_6_method_2_code 75 = .ok (.aload_n 0, 1) := by decide +kernel
theorem d_Ins_inspect_76 : decode prog_6_method_2_code 76 = .ok (.iload_n 1, 1) := by decide +kernel
theorem d_Ins_inspect_77 : decode prog_6_method_2_code 77 = .ok (.aload_n 0, 1) := by decide +kernel
theorem d_Ins_inspect_78 : decode prog_6_method_2_code 78 = .ok (.getfield 15, 3) := by decide +kernel
theorem d_Ins_inspect_81 : decode prog_6_method_2_code 81 = .ok (.iload_n 1, 1) := by decide +kernel
theorem d_Ins_inspect_82 : decode prog_6_method_2_code 82 = .ok (.invokevirtual 53, 3) := by decide +kernel
theorem d_Ins_inspect_85 : decode prog_6_method_2_code 85 = .ok (.invokevirtual 63, 3) := by decide +kernel
theorem d_Ins_inspect_88 : decode prog_6_method_2_code 88 = .ok (.iinc 1 1, 3) := by decide +kernel
theorem d_Ins_inspect_91 : decode prog_6_method_2_code 91 = .ok (.goto (-23), 3) := by decide +kernel
theorem d_Ins_inspect_94 : decode prog_6_method_2_code 94 = .ok (.iconst 0, 1) := by decide +kernel
theorem d_Ins_inspect_95 : decode prog_6_method_2_code 95 = .ok (.istore_n 1, 1) := by decide +kernel
theorem d_Ins_inspect_96 : decode prog_6_method_2_code 96 = .ok (.iload_n 1, 1) := by decide +kernel
theorem d_Ins_inspect_97 : decode prog_6_method_2_code 97 = .ok (.aload_n 0, 1) := by decide +kernel
theorem d_Ins_inspect_98 : decode prog_6_method_2_code 98 = .ok (.getfield 19, 3) := by decide +kernel
theorem d_Ins_inspect_101 : decode prog_6_method_2_code 101 = .ok (.invokevirtual 66, 3) := by decide +kernel
theorem d_Ins_inspect_104 : decode prog_6_method_2_code 104 = .ok (.if_icmp .ge 14, 3) := by decide +kernel
theorem d_Ins_inspect_107 : decode prog_6_method_2_code 107 = .ok (.aload_n 0, 1) := by decide +kernel
theorem d_Ins_inspect_108 : decode prog_6_method_2_code 108 = .ok (.iload_n 1, 1) := by decide +kernel
theorem d_Ins_inspect_109 : decode prog_6_method_2_code 109 = .ok (.invokevirtual 71, 3) := by decide +kernel
theorem d_Ins_inspect_112 : decode prog_6_method_2_code 112 = .ok (.iinc 1 1, 3) := by decide +kernel
theorem d_Ins_inspect_115 : decode prog_6_method_2_code 115 = .ok (.goto (-19), 3) := by decide +kernel
theorem d_Ins_inspect_118 : decode prog_6_method_2_code 118 = .ok (.aload_n 0, 1) := by decide +kernel
theorem d_Ins_inspect_119 : decode prog_6_method_2_code 119 = .ok (.invokevirtual 75, 3) := by decide +kernel
theorem d_Ins_inspect_122 : decode prog_6_method_2_code 122 = .ok (.aload_n 0, 1) := by decide +kernel
theorem d_Ins_inspect_123 : decode prog_6_method_2_code 123 = .ok (.aload_n 0, 1) := by decide +kernel
theorem d_Ins_inspect_124 : decode prog_6_method_2_code 124 = .ok (.getfield 23, 3) := by decide +kernel
theorem d_Ins_inspect_127 : decode prog_6_method_2_code 127 = .ok (.iconst 0, 1) := by decide +kernel
theorem d_Ins_inspect_128 : decode prog_6_method_2_code 128 = .ok (.invokevirtual 78, 3) := by decide +kernel
theorem d_Ins_inspect_131 : decode prog_6_method_2_code 131 = .ok (.aload_n 0, 1) := by decide +kernel
theorem d_Ins_inspect_132 : decode prog_6_method_2_code 132 = .ok (.getfield 23, 3) := by decide +kernel
theorem d_Ins_inspect_135 : decode prog_6_method_2_code 135 = .ok (.iconst 1, 1) := by decide +kernel
theorem d_Ins_inspect_136 : decode prog_6_method_2_code 136 = .ok (.invokevirtual 78, 3) := by decide +kernel
theorem d_Ins_inspect_139 : decode prog_6_method_2_code 139 = .ok (.invokestatic 83, 3) := by decide +kernel
theorem d_Ins_inspect_142 : decode prog_6_method_2_code 142 = .ok (.aload_n 0, 1) := by decide +kernel
theorem d_Ins_inspect_143 : decode prog_6_method_2_code 143 = .ok (.getfield 19, 3) := by decide +kernel
theorem d_Ins_inspect_146 : decode prog_6_method_2_code 146 = .ok (.invokevirtual 89, 3) := by decide +kernel
theorem d_Ins_inspect_149 : decode prog_6_method_2_code 149 = .ok (.if_icmp .ne 7, 3) := by decide +kernel
theorem d_Ins_inspect_152 : decode prog_6_method_2_code 152 = .ok (.iconst 1, 1) := by decide +kernel
theorem d_Ins_inspect_153 : decode prog_6_method_2_code 153 = .ok (.goto 4, 3) := by decide +kernel
theorem d_Ins_inspect_156 : decode prog_6_method_2_code 156 = .ok (.iconst 0, 1) := by decide +kernel
theorem d_Ins_inspect_157 : decode prog_6_method_2_code 157 = .ok (.invokevirtual 92, 3) := by decide +kernel
theorem d_Ins_inspect_160 : decode prog_6_method_2_code 160 = .ok (.aload_n 0, 1) := by decide +kernel
theorem d_Ins_inspect_161 : decode prog_6_method_2_code 161 = .ok (.getfield 49, 3) := by decide +kernel
theorem d_Ins_inspect_164 : decode prog_6_method_2_code 164 = .ok (.ireturn, 1) := by decide +kernel
set_option maxHeartbeats 4000000 in
set_option maxRecDepth 100000 in
theorem v_Ins_inspect_157 {p : Program} {l : Launch} {e : Env} {s : State} {m : MethodId} {args : Array Value} {below : List Frame} {meth : Method} {c : Code} {D : va_G} {ad : Nat → Nat} {ca : Nat → ClassId} {A : Nat → Prop} {FU : Nat} {q : Int32 × St} (X : FX p s m meth c prog_6_method_2_code 2 (some .int) "FlashFiles$Inspector" D (tyF ca) A) {z0 : Int32} {g : St} {H : Heap} {locs : List Loc} {ls : Array Slot} (hP : va_P D cls (wF ad ca g) H) (hD : va_D A (wF ad ca g)) (hS : va_S A s.heap H locs) (hl : lv_has ls 2 [(0, .ref (ad 10))]) (h : Ins_inspect_b157 FU z0 g = some q) : W p l e (rmN 5) s m args below meth c H locs 0 0 (MQ below (fxQi D (tyF ca) A (wF ad ca q.2) q.1) args s 0 0 A) (F0 m 157 ls [.int z0, .ref (ad 10)]) := by
  have hx := X.1
  have hb := X.2.1
  unfold Ins_inspect_b157 at h
  obtain ⟨p1, e1, h⟩ := bd_some h
  refine fx_v X (fx_runV (As := [.int z0]) X (m_Ins_expect e1 _) hP hD kv_Ins_92 ⟨Nat.le_of_ble_eq_true rfl, Nat.le_of_ble_eq_true rfl⟩ 10 rfl rfl rfl hl.1 rfl (Nat.le_of_ble_eq_true rfl) d_Ins_inspect_157) hD hS (fun H locs hP hD hS => ?_)
  refine lv_aload_n hx hb d_Ins_inspect_160 rfl (lv_at hl 0 rfl) ?_
  refine gF_ins_found X hP d_Ins_inspect_161 ?_
  cases h
  exact fx_iret X hP hD hS d_Ins_inspect_164
set_option maxHeartbeats 4000000 in
set_option maxRecDepth 100000 in
theorem v_Ins_inspect_96 {p : Program} {l : Launch} {e : Env} {s : State} {m : MethodId} {args : Array Value} {below : List Frame} {meth : Method} {c : Code} {D : va_G} {ad : Nat → Nat} {ca : Nat → ClassId} {A : Nat → Prop} {FU : Nat} {q : Int32 × St} (X : FX p s m meth c prog_6_method_2_code 2 (some .int) "FlashFiles$Inspector" D (tyF ca) A) : ∀ (n : Nat), ∀ (y1 : Int32) (g : St) (H : Heap) (locs : List Loc) (ls : Array Slot), va_P D cls (wF ad ca g) H → va_D A (wF ad ca g) → va_S A s.heap H locs → lv_has ls 2 [(0, .ref (ad 10)), (1, .int y1)] → Ins_inspect_b96 FU n y1 g = some q → W p l e (rmN 5) s m args below meth c H locs 0 0 (MQ below (fxQi D (tyF ca) A (wF ad ca q.2) q.1) args s 0 0 A) (F0 m 96 ls []) := by
  have hx := X.1
  have hb := X.2.1
  intro n
  induction n with
  | zero =>
    intro y1 g H locs ls hP hD hS hl h
    cases h
  | succ n ih =>
    intro y1 g H locs ls hP hD hS hl h
    have h := h
    rw [Ins_inspect_b96.eq_2] at h
    refine lv_iload_n hx hb d_Ins_inspect_96 rfl (lv_at hl 1 rfl) ?_
    refine lv_aload_n hx hb d_Ins_inspect_97 rfl (lv_at hl 0 rfl) ?_
    refine gF_ins_log X hP d_Ins_inspect_98 ?_
    obtain ⟨v2, e1, h⟩ := bd_some h
    refine fx_i X (fx_runV (As := []) X (m_Log_segments e1 _) hP hD kv_Ins_66 ⟨Nat.le_of_ble_eq_true rfl, Nat.le_of_ble_eq_true rfl⟩ 5 rfl rfl rfl hl.1 rfl (Nat.le_of_ble_eq_true rfl) d_Ins_inspect_101) hD hS (fun H locs hP hD hS => ?_)
    refine lv_icmp_ge (tgt := 118) hx hb d_Ins_inspect_104 (by decide) (fun hc => ?_) (fun hc => ?_)
    · have h := if_t hc h
      refine lv_aload_n hx hb d_Ins_inspect_118 rfl (lv_at hl 0 rfl) ?_
      obtain ⟨p3, e1, h⟩ := bd_some h
      refine fx_v X (fx_runV (As := []) X (m_Ins_inspectFree e1 _) hP hD kv_Ins_75 ⟨Nat.le_of_ble_eq_true rfl, Nat.le_of_ble_eq_true rfl⟩ 10 rfl rfl rfl hl.1 rfl (Nat.le_of_ble_eq_true rfl) d_Ins_inspect_119) hD hS (fun H locs hP hD hS => ?_)
      refine lv_aload_n hx hb d_Ins_inspect_122 rfl (lv_at hl 0 rfl) ?_
      refine lv_aload_n hx hb d_Ins_inspect_123 rfl (lv_at hl 0 rfl) ?_
      refine gF_ins_checkpoints X hP d_Ins_inspect_124 ?_
      refine lv_iconst (v := 0) hx hb d_Ins_inspect_127 (by decide) ?_
      obtain ⟨v4, e1, h⟩ := bd_some h
      refine fx_i X (fx_runV (As := [.int (0 : Int32)]) X (m_Chk_wholeSerial e1 _) hP hD kv_Ins_78 ⟨Nat.le_of_ble_eq_true rfl, Nat.le_of_ble_eq_true rfl⟩ 9 rfl rfl rfl hl.1 rfl (Nat.le_of_ble_eq_true rfl) d_Ins_inspect_128) hD hS (fun H locs hP hD hS => ?_)
      refine lv_aload_n hx hb d_Ins_inspect_131 rfl (lv_at hl 0 rfl) ?_
      refine gF_ins_checkpoints X hP d_Ins_inspect_132 ?_
      refine lv_iconst (v := 1) hx hb d_Ins_inspect_135 (by decide) ?_
      obtain ⟨v5, e1, h⟩ := bd_some h
      refine fx_i X (fx_runV (As := [.int (1 : Int32)]) X (m_Chk_wholeSerial e1 _) hP hD kv_Ins_78 ⟨Nat.le_of_ble_eq_true rfl, Nat.le_of_ble_eq_true rfl⟩ 9 rfl rfl rfl hl.1 rfl (Nat.le_of_ble_eq_true rfl) d_Ins_inspect_136) hD hS (fun H locs hP hD hS => ?_)
      refine va_mmax hx hb (X.2.2.1.trans hl.1.symm) X.2.2.2.2.2.1 (X.2.2.2.2.2.2.1.use q7_132) (X.2.2.2.2.2.2.1.use q2_190) (X.2.2.2.2.2.2.1.use q1_16) (X.2.2.2.2.2.2.1.use math_max) (Nat.le_of_ble_eq_true rfl) (Nat.le_of_ble_eq_true rfl) (Nat.zero_le _) (Nat.zero_le _) d_Ins_inspect_139 ?_
      refine lv_aload_n hx hb d_Ins_inspect_142 rfl (lv_at hl 0 rfl) ?_
      refine gF_ins_log X hP d_Ins_inspect_143 ?_
      obtain ⟨v6, e1, h⟩ := bd_some h
      refine fx_i X (fx_runV (As := []) X (m_Log_serial e1 _) hP hD kv_Ins_89 ⟨Nat.le_of_ble_eq_true rfl, Nat.le_of_ble_eq_true rfl⟩ 5 rfl rfl rfl hl.1 rfl (Nat.le_of_ble_eq_true rfl) d_Ins_inspect_146) hD hS (fun H locs hP hD hS => ?_)
      refine lv_icmp_ne (tgt := 156) hx hb d_Ins_inspect_149 (by decide) (fun hc => ?_) (fun hc => ?_)
      · have h := if_f hc h
        refine lv_iconst (v := 0) hx hb d_Ins_inspect_156 (by decide) ?_
        exact v_Ins_inspect_157 X  hP hD hS (lv_sub hl [0] rfl) h
      · have h := if_t hc h
        refine lv_iconst (v := 1) hx hb d_Ins_inspect_152 (by decide) ?_
        refine lv_goto (tgt := 157) hx hb d_Ins_inspect_153 (by decide) ?_
        exact v_Ins_inspect_157 X  hP hD hS (lv_sub hl [0] rfl) h
    · have h := if_f hc h
      refine lv_aload_n hx hb d_Ins_inspect_107 rfl (lv_at hl 0 rfl) ?_
      refine lv_iload_n hx hb d_Ins_inspect_108 rfl (lv_at hl 1 rfl) ?_
      obtain ⟨p7, e1, h⟩ := bd_some h
      refine fx_v X (fx_runV (As := [.int y1]) X (m_Ins_inspectSegment e1 _) hP hD kv_Ins_71 ⟨Nat.le_of_ble_eq_true rfl, Nat.le_of_ble_eq_true rfl⟩ 10 rfl rfl rfl hl.1 rfl (Nat.le_of_ble_eq_true rfl) d_Ins_inspect_109) hD hS (fun H locs hP hD hS => ?_)
      refine lv_iinc (k := 1) (v := (y1 + (1 : Int32))) hx hb d_Ins_inspect_112 hl rfl (oi_1 _) (by decide) rfl (fun ls hl => ?_)
      have hl : lv_has ls 2 [(1, .int (y1 + (1 : Int32))), (0, .ref (ad 10))] := hl
      refine lv_goto (tgt := 96) hx hb d_Ins_inspect_115 (by decide) ?_
      exact ih _ _ _ _ _ hP hD hS (lv_sub hl [1, 0] rfl) h
set_option maxHeartbeats 4000000 in
set_option maxRecDepth 100000 in
theorem v_Ins_inspect_68 {p : Program} {l : Launch} {e : Env} {s : State} {m : MethodId} {args : Array Value} {below : List Frame} {meth : Method} {c : Code} {D : va_G} {ad : Nat → Nat} {ca : Nat → ClassId} {A : Nat → Prop} {FU : Nat} {q : Int32 × St} (X : FX p s m meth c prog_6_method_2_code 2 (some .int) "FlashFiles$Inspector" D (tyF ca) A) : ∀ (n : Nat), ∀ (y1 : Int32) (g : St) (H : Heap) (locs : List Loc) (ls : Array Slot), va_P D cls (wF ad ca g) H → va_D A (wF ad ca g) → va_S A s.heap H locs → lv_has ls 2 [(0, .ref (ad 10)), (1, .int y1)] → Ins_inspect_b68 FU n y1 g = some q → W p l e (rmN 5) s m args below meth c H locs 0 0 (MQ below (fxQi D (tyF ca) A (wF ad ca q.2) q.1) args s 0 0 A) (F0 m 68 ls []) := by
  have hx := X.1
  have hb := X.2.1
  intro n
  induction n with
  | zero =>
    intro y1 g H locs ls hP hD hS hl h
    cases h
  | succ n ih =>
    intro y1 g H locs ls hP hD hS hl h
    have h := h
    rw [Ins_inspect_b68.eq_2] at h
    refine lv_iload_n hx hb d_Ins_inspect_68 rfl (lv_at hl 1 rfl) ?_
    refine lv_sipush (v := 2048) hx hb d_Ins_inspect_69 (by decide) ?_
    refine lv_icmp_ge (tgt := 94) hx hb d_Ins_inspect_72 (by decide) (fun hc => ?_) (fun hc => ?_)
    · have h := if_t hc h
      refine lv_iconst (v := 0) hx hb d_Ins_inspect_94 (by decide) ?_
      refine lv_istore_n hx hb d_Ins_inspect_95 rfl hl (by decide) rfl (fun ls hl => ?_)
      have hl : lv_has ls 2 [(1, .int (0 : Int32)), (0, .ref (ad 10))] := hl
      exact v_Ins_inspect_96 X  _ _ _ _ _ _ hP hD hS (lv_sub hl [1, 0] rfl) h
    · have h := if_f hc h
      refine lv_aload_n hx hb d_Ins_inspect_75 rfl (lv_at hl 0 rfl) ?_
      refine lv_iload_n hx hb d_Ins_inspect_76 rfl (lv_at hl 1 rfl) ?_
      refine lv_aload_n hx hb d_Ins_inspect_77 rfl (lv_at hl 0 rfl) ?_
      refine gF_ins_table X hP d_Ins_inspect_78 ?_
      refine lv_iload_n hx hb d_Ins_inspect_81 rfl (lv_at hl 1 rfl) ?_
      obtain ⟨v8, e1, h⟩ := bd_some h
      refine fx_i X (fx_runV (As := [.int y1]) X (m_Tab_placeOf e1 _) hP hD kv_Ins_53 ⟨Nat.le_of_ble_eq_true rfl, Nat.le_of_ble_eq_true rfl⟩ 4 rfl rfl rfl hl.1 rfl (Nat.le_of_ble_eq_true rfl) d_Ins_inspect_82) hD hS (fun H locs hP hD hS => ?_)
      obtain ⟨p9, e1, h⟩ := bd_some h
      refine fx_v X (fx_runV (As := [.int y1, .int v8]) X (m_Ins_inspectLed e1 _) hP hD kv_Ins_63 ⟨Nat.le_of_ble_eq_true rfl, Nat.le_of_ble_eq_true rfl⟩ 10 rfl rfl rfl hl.1 rfl (Nat.le_of_ble_eq_true rfl) d_Ins_inspect_85) hD hS (fun H locs hP hD hS => ?_)
      refine lv_iinc (k := 1) (v := (y1 + (1 : Int32))) hx hb d_Ins_inspect_88 hl rfl (oi_1 _) (by decide) rfl (fun ls hl => ?_)
      have hl : lv_has ls 2 [(1, .int (y1 + (1 : Int32))), (0, .ref (ad 10))] := hl
      refine lv_goto (tgt := 68) hx hb d_Ins_inspect_91 (by decide) ?_
      exact ih _ _ _ _ _ hP hD hS (lv_sub hl [1, 0] rfl) h
set_option maxHeartbeats 4000000 in
set_option maxRecDepth 100000 in
theorem v_Ins_inspect_60 {p : Program} {l : Launch} {e : Env} {s : State} {m : MethodId} {args : Array Value} {below : List Frame} {meth : Method} {c : Code} {D : va_G} {ad : Nat → Nat} {ca : Nat → ClassId} {A : Nat → Prop} {FU : Nat} {q : Int32 × St} (X : FX p s m meth c prog_6_method_2_code 2 (some .int) "FlashFiles$Inspector" D (tyF ca) A) {k29 : Int32 → St → Option (Int32 × St)} (hk29 : ∀ (y1 : Int32) (g : St) (H : Heap) (locs : List Loc) (ls : Array Slot), va_P D cls (wF ad ca g) H → va_D A (wF ad ca g) → va_S A s.heap H locs → lv_has ls 2 [(0, .ref (ad 10)), (1, .int y1)] → k29 y1 g = some q → W p l e (rmN 5) s m args below meth c H locs 0 0 (MQ below (fxQi D (tyF ca) A (wF ad ca q.2) q.1) args s 0 0 A) (F0 m 29 ls [])) {y1 : Int32} {g : St} {H : Heap} {locs : List Loc} {ls : Array Slot} (hP : va_P D cls (wF ad ca g) H) (hD : va_D A (wF ad ca g)) (hS : va_S A s.heap H locs) (hl : lv_has ls 2 [(0, .ref (ad 10)), (1, .int y1)]) (h : Ins_inspect_b60 FU k29 y1 g = some q) : W p l e (rmN 5) s m args below meth c H locs 0 0 (MQ below (fxQi D (tyF ca) A (wF ad ca q.2) q.1) args s 0 0 A) (F0 m 60 ls []) := by
  have hx := X.1
  have hb := X.2.1
  unfold Ins_inspect_b60 at h
  refine lv_iinc (k := 1) (v := (y1 + (1 : Int32))) hx hb d_Ins_inspect_60 hl rfl (oi_1 _) (by decide) rfl (fun ls hl => ?_)
  have hl : lv_has ls 2 [(1, .int (y1 + (1 : Int32))), (0, .ref (ad 10))] := hl
  refine lv_goto (tgt := 29) hx hb d_Ins_inspect_63 (by decide) ?_
  exact hk29 _ _ _ _ _ hP hD hS (lv_sub hl [1, 0] rfl) h
set_option maxHeartbeats 4000000 in
set_option maxRecDepth 100000 in
theorem v_Ins_inspect_29 {p : Program} {l : Launch} {e : Env} {s : State} {m : MethodId} {args : Array Value} {below : List Frame} {meth : Method} {c : Code} {D : va_G} {ad : Nat → Nat} {ca : Nat → ClassId} {A : Nat → Prop} {FU : Nat} {q : Int32 × St} (X : FX p s m meth c prog_6_method_2_code 2 (some .int) "FlashFiles$Inspector" D (tyF ca) A) : ∀ (n : Nat), ∀ (y1 : Int32) (g : St) (H : Heap) (locs : List Loc) (ls : Array Slot), va_P D cls (wF ad ca g) H → va_D A (wF ad ca g) → va_S A s.heap H locs → lv_has ls 2 [(0, .ref (ad 10)), (1, .int y1)] → Ins_inspect_b29 FU n y1 g = some q → W p l e (rmN 5) s m args below meth c H locs 0 0 (MQ below (fxQi D (tyF ca) A (wF ad ca q.2) q.1) args s 0 0 A) (F0 m 29 ls []) := by
  have hx := X.1
  have hb := X.2.1
  intro n
  induction n with
  | zero =>
    intro y1 g H locs ls hP hD hS hl h
    cases h
  | succ n ih =>
    intro y1 g H locs ls hP hD hS hl h
    have h := h
    rw [Ins_inspect_b29.eq_2] at h
    refine lv_iload_n hx hb d_Ins_inspect_29 rfl (lv_at hl 1 rfl) ?_
    refine lv_sipush (v := 2048) hx hb d_Ins_inspect_30 (by decide) ?_
    refine lv_icmp_ge (tgt := 66) hx hb d_Ins_inspect_33 (by decide) (fun hc => ?_) (fun hc => ?_)
    · have h := if_t hc h
      refine lv_iconst (v := 1) hx hb d_Ins_inspect_66 (by decide) ?_
      refine lv_istore_n hx hb d_Ins_inspect_67 rfl hl (by decide) rfl (fun ls hl => ?_)
      have hl : lv_has ls 2 [(1, .int (1 : Int32)), (0, .ref (ad 10))] := hl
      exact v_Ins_inspect_68 X  _ _ _ _ _ _ hP hD hS (lv_sub hl [1, 0] rfl) h
    · have h := if_f hc h
      refine lv_aload_n hx hb d_Ins_inspect_36 rfl (lv_at hl 0 rfl) ?_
      refine gF_ins_table X hP d_Ins_inspect_37 ?_
      refine lv_iload_n hx hb d_Ins_inspect_40 rfl (lv_at hl 1 rfl) ?_
      obtain ⟨v10, e1, h⟩ := bd_some h
      refine fx_i X (fx_runV (As := [.int y1]) X (m_Tab_placeOf e1 _) hP hD kv_Ins_53 ⟨Nat.le_of_ble_eq_true rfl, Nat.le_of_ble_eq_true rfl⟩ 4 rfl rfl rfl hl.1 rfl (Nat.le_of_ble_eq_true rfl) d_Ins_inspect_41) hD hS (fun H locs hP hD hS => ?_)
      refine lv_if_eq (tgt := 60) hx hb d_Ins_inspect_44 (by decide) (fun hc => ?_) (fun hc => ?_)
      · have h := if_t hc h
        exact v_Ins_inspect_60 X ih hP hD hS (lv_sub hl [0, 1] rfl) h
      · have h := if_f hc h
        refine lv_aload_n hx hb d_Ins_inspect_47 rfl (lv_at hl 0 rfl) ?_
        refine lv_iload_n hx hb d_Ins_inspect_48 rfl (lv_at hl 1 rfl) ?_
        refine lv_aload_n hx hb d_Ins_inspect_49 rfl (lv_at hl 0 rfl) ?_
        refine gF_ins_table X hP d_Ins_inspect_50 ?_
        refine lv_iload_n hx hb d_Ins_inspect_53 rfl (lv_at hl 1 rfl) ?_
        obtain ⟨v11, e1, h⟩ := bd_some h
        refine fx_i X (fx_runV (As := [.int y1]) X (m_Tab_placeOf e1 _) hP hD kv_Ins_53 ⟨Nat.le_of_ble_eq_true rfl, Nat.le_of_ble_eq_true rfl⟩ 4 rfl rfl rfl hl.1 rfl (Nat.le_of_ble_eq_true rfl) d_Ins_inspect_54) hD hS (fun H locs hP hD hS => ?_)
        obtain ⟨p12, e1, h⟩ := bd_some h
        refine fx_v X (fx_runV (As := [.int y1, .int v11]) X (m_Ins_inspectNode e1 _) hP hD kv_Ins_59 ⟨Nat.le_of_ble_eq_true rfl, Nat.le_of_ble_eq_true rfl⟩ 10 rfl rfl rfl hl.1 rfl (Nat.le_of_ble_eq_true rfl) d_Ins_inspect_57) hD hS (fun H locs hP hD hS => ?_)
        exact v_Ins_inspect_60 X ih hP hD hS (lv_sub hl [0, 1] rfl) h
set_option maxHeartbeats 4000000 in
set_option maxRecDepth 100000 in
theorem m_Ins_inspect {l : Launch} {D : va_G} {ad : Nat → Nat} {ca : Nat → ClassId} {FU : Nat} {g : St} {q : Int32 × St} (h : Ins_inspect FU  g = some q) : CI l ⟨"FlashFiles$Inspector", "inspect", "()I"⟩ prog_6_method_2_code 2 5 (some .int) D (tyF ca) (wF ad ca g) [.ref (ad 10)] q.1 (wF ad ca q.2) := by
  intro sz
  refine Met.fx (Qc := fun A => fxQi D (tyF ca) A (wF ad ca q.2) q.1) (by decide) (Nat.le_of_ble_eq_true rfl) ?_
  intro p e s m below meth c A ls X hP hD hl
  have hl : lv_has ls 2 [(0, .ref (ad 10))] := hl
  have hS : va_S A s.heap s.heap [] := va_S.rf
  have hx := X.1
  have hb := X.2.1
  unfold Ins_inspect at h
  refine lv_aload_n hx hb d_Ins_inspect_0 rfl (lv_at hl 0 rfl) ?_
  refine gF_ins_owned X hP d_Ins_inspect_1 ?_
  refine lv_iconst (v := 0) hx hb d_Ins_inspect_4 (by decide) ?_
  obtain ⟨p13, e1, h⟩ := bd_some h
  refine fx_v X (fx_runS X (m_Arr_fill_0_24 e1 _) (As := [.ref (ad 35), .int (0 : Int32)]) hP hD ks_Ins_37 ⟨Nat.le_of_ble_eq_true rfl, Nat.le_of_ble_eq_true rfl⟩ rfl hl.1 rfl (Nat.le_of_ble_eq_true rfl) d_Ins_inspect_5) hD hS (fun H locs hP hD hS => ?_)
  refine lv_aload_n hx hb d_Ins_inspect_8 rfl (lv_at hl 0 rfl) ?_
  refine gF_ins_led X hP d_Ins_inspect_9 ?_
  refine lv_iconst (v := 0) hx hb d_Ins_inspect_12 (by decide) ?_
  obtain ⟨p14, e1, h⟩ := bd_some h
  refine fx_v X (fx_runS X (m_Arr_fill_0_25 e1 _) (As := [.ref (ad 36), .int (0 : Int32)]) hP hD ks_Ins_37 ⟨Nat.le_of_ble_eq_true rfl, Nat.le_of_ble_eq_true rfl⟩ rfl hl.1 rfl (Nat.le_of_ble_eq_true rfl) d_Ins_inspect_13) hD hS (fun H locs hP hD hS => ?_)
  refine lv_aload_n hx hb d_Ins_inspect_16 rfl (lv_at hl 0 rfl) ?_
  refine lv_aload_n hx hb d_Ins_inspect_17 rfl (lv_at hl 0 rfl) ?_
  refine gF_ins_device X hP d_Ins_inspect_18 ?_
  obtain ⟨v15, e1, h⟩ := bd_some h
  refine fx_i X (fx_runV (As := []) X (m_Dev_spoiled e1 _) hP hD kv_Ins_43 ⟨Nat.le_of_ble_eq_true rfl, Nat.le_of_ble_eq_true rfl⟩ 3 rfl rfl rfl hl.1 rfl (Nat.le_of_ble_eq_true rfl) d_Ins_inspect_21) hD hS (fun H locs hP hD hS => ?_)
  obtain ⟨g16, e1, h⟩ := nx_some h
  refine uF_ins_found X hP hD hS e1 d_Ins_inspect_24 (fun H locs hP hD hS => ?_)
  refine lv_iconst (v := 1) hx hb d_Ins_inspect_27 (by decide) ?_
  refine lv_istore_n hx hb d_Ins_inspect_28 rfl hl (by decide) rfl (fun ls hl => ?_)
  have hl : lv_has ls 2 [(1, .int (1 : Int32)), (0, .ref (ad 10))] := hl
  exact v_Ins_inspect_29 X  _ _ _ _ _ _ hP hD hS (lv_sub hl [1, 0] rfl) h
