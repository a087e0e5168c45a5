theorem d_Tab_placeOf_0 : decode prog_9_method_2_code 0 = .ok (.iload_n 1, 1) := by decide +kernel
theorem d_Tab_placeOf_1 : decode prog_9_method_2_code 1 = .ok (.iconst 1, 1) := by decide +kernel
theorem d_Tab_placeOf_2 : decode prog_9_method_2_code 2 = .ok (.if_icmp .lt 10, 3) := by decide +kernel
theorem d_Tab_placeOf_5 : decode prog_9_method_2_code 5 = .ok (.iload_n 1, 1) := by decide +kernel
theorem d_Tab_placeOf_6 : decode prog_9_method_2_code 6 = .ok (.sipush 2048, 3) := by decide +kernel
theorem d_Tab_placeOf_9 : decode prog_9_method_2_code 9 = .ok (.if_icmp .lt 7, 3) := by decide +kernel
theorem d_Tab_placeOf_12 : decode prog_9_method_2_code 12 = .ok (.iconst 0, 1) := by decide +kernel
theorem d_Tab_placeOf_13 : decode prog_9_method_2_code 13 = .ok (.goto 9, 3) := by decide +kernel
theorem d_Tab_placeOf_16 : decode prog_9_method_2_code 16 = .ok (.aload_n 0, 1) := by decide +kernel
theorem d_Tab_placeOf_17 : decode prog_9_method_2_code 17 = .ok (.getfield 9, 3) := by decide +kernel
theorem d_Tab_placeOf_20 : decode prog_9_method_2_code 20 = .ok (.iload_n 1, 1) := by decide +kernel
theorem d_Tab_placeOf_21 : decode prog_9_method_2_code 21 = .ok (.iaload, 1) := by decide +kernel
theorem d_Tab_placeOf_22 : decode prog_9_method_2_code 22 = .ok (.ireturn, 1) := by decide +kernel
set_option maxHeartbeats 4000000 in
set_option maxRecDepth 100000 in
theorem m_Tab_placeOf {l : Launch} {D : va_G} {ad : Nat → Nat} {ca : Nat → ClassId} {FU : Nat} {x1 : Int32} {g : St} {q : Int32} (h : Tab_placeOf FU x1 g = some q) : CI l ⟨"FlashFiles$Table", "placeOf", "(I)I"⟩ prog_9_method_2_code 2 1 (some .int) D (tyF ca) (wF ad ca g) [.ref (ad 4), .int x1] q (wF ad ca g) := by
  intro sz
  refine Met.fx (Qc := fun A => fxQi D (tyF ca) A (wF ad ca g) q) (by decide) (Nat.le_of_ble_eq_true rfl) ?_
  intro p e s m below meth c A ls X hP hD hl
  have hl : lv_has ls 2 [(0, .ref (ad 4)), (1, .int x1)] := hl
  have hS : va_S A s.heap s.heap [] := va_S.rf
  have hx := X.1
  have hb := X.2.1
  unfold Tab_placeOf at h
  refine lv_iload_n hx hb d_Tab_placeOf_0 rfl (lv_at hl 1 rfl) ?_
  refine lv_iconst (v := 1) hx hb d_Tab_placeOf_1 (by decide) ?_
  refine lv_icmp_lt (tgt := 12) hx hb d_Tab_placeOf_2 (by decide) (fun hc => ?_) (fun hc => ?_)
  · have h := if_t hc h
    refine lv_iconst (v := 0) hx hb d_Tab_placeOf_12 (by decide) ?_
    refine lv_goto (tgt := 22) hx hb d_Tab_placeOf_13 (by decide) ?_
    cases h
    exact fx_iret X hP hD hS d_Tab_placeOf_22
  · have h := if_f hc h
    refine lv_iload_n hx hb d_Tab_placeOf_5 rfl (lv_at hl 1 rfl) ?_
    refine lv_sipush (v := 2048) hx hb d_Tab_placeOf_6 (by decide) ?_
    refine lv_icmp_lt (tgt := 16) hx hb d_Tab_placeOf_9 (by decide) (fun hc => ?_) (fun hc => ?_)
    · have h := if_t hc h
      refine lv_aload_n hx hb d_Tab_placeOf_16 rfl (lv_at hl 0 rfl) ?_
      refine gF_tab_places X hP d_Tab_placeOf_17 ?_
      refine lv_iload_n hx hb d_Tab_placeOf_20 rfl (lv_at hl 1 rfl) ?_
      obtain ⟨v1, e1, h⟩ := bd_some h
      refine rF_6 X hP e1 d_Tab_placeOf_21 ?_
      cases h
      exact fx_iret X hP hD hS d_Tab_placeOf_22
    · have h := if_f hc h
      refine lv_iconst (v := 0) hx hb d_Tab_placeOf_12 (by decide) ?_
      refine lv_goto (tgt := 22) hx hb d_Tab_placeOf_13 (by decide) ?_
      cases h
      exact fx_iret X hP hD hS d_Tab_placeOf_22
theorem d_Tab_setPlace_0 : decode prog_9_method_3_code 0 = .ok (.iload_n 1, 1) := by decide +kernel
theorem d_Tab_setPlace_1 : decode prog_9_method_3_code 1 = .ok (.iconst 1, 1) := by decide +kernel
theorem d_Tab_setPlace_2 : decode prog_9_method_3_code 2 = .ok (.if_icmp .lt 17, 3) := by decide +kernel
theorem d_Tab_setPlace_5 : decode prog_9_method_3_code 5 = .ok (.iload_n 1, 1) := by decide +kernel
theorem d_Tab_setPlace_6 : decode prog_9_method_3_code 6 = .ok (.sipush 2048, 3) := by decide +kernel
theorem d_Tab_setPlace_9 : decode prog_9_method_3_code 9 = .ok (.if_icmp .ge 10, 3) := by decide +kernel
theorem d_Tab_setPlace_12 : decode prog_9_method_3_code 12 = .ok (.aload_n 0, 1) := by decide +kernel
theorem d_Tab_setPlace_13 : decode prog_9_method_3_code 13 = .ok (.getfield 9, 3) := by decide +kernel
theorem d_Tab_setPlace_16 : decode prog_9_method_3_code 16 = .ok (.iload_n 1, 1) := by decide +kernel
theorem d_Tab_setPlace_17 : decode prog_9_method_3_code 17 = .ok (.iload_n 2, 1) := by decide +kernel
theorem d_Tab_setPlace_18 : decode prog_9_method_3_code 18 = .ok (.iastore, 1) := by decide +kernel
theorem d_Tab_setPlace_19 : decode prog_9_method_3_code 19 = .ok (.return_, 1) := by decide +kernel
set_option maxHeartbeats 4000000 in
set_option maxRecDepth 100000 in
theorem m_Tab_setPlace {l : Launch} {D : va_G} {ad : Nat → Nat} {ca : Nat → ClassId} {FU : Nat} {x1 : Int32} {x2 : Int32} {g : St} {q : St} (h : Tab_setPlace FU x1 x2 g = some q) : CV l ⟨"FlashFiles$Table", "setPlace", "(II)V"⟩ prog_9_method_3_code 3 1 D (tyF ca) (wF ad ca g) [.ref (ad 4), .int x1, .int x2] (wF ad ca q) := by
  intro sz
  refine Met.fx (Qc := fun A => fxQv D (tyF ca) A (wF ad ca q)) (by decide) (Nat.le_of_ble_eq_true rfl) ?_
  intro p e s m below meth c A ls X hP hD hl
  have hl : lv_has ls 3 [(0, .ref (ad 4)), (1, .int x1), (2, .int x2)] := hl
  have hS : va_S A s.heap s.heap [] := va_S.rf
  have hx := X.1
  have hb := X.2.1
  unfold Tab_setPlace at h
  refine lv_iload_n hx hb d_Tab_setPlace_0 rfl (lv_at hl 1 rfl) ?_
  refine lv_iconst (v := 1) hx hb d_Tab_setPlace_1 (by decide) ?_
  refine lv_icmp_lt (tgt := 19) hx hb d_Tab_setPlace_2 (by decide) (fun hc => ?_) (fun hc => ?_)
  · have h := if_t hc h
    cases h
    exact fx_vret X hP hD hS d_Tab_setPlace_19
  · have h := if_f hc h
    refine lv_iload_n hx hb d_Tab_setPlace_5 rfl (lv_at hl 1 rfl) ?_
    refine lv_sipush (v := 2048) hx hb d_Tab_setPlace_6 (by decide) ?_
    refine lv_icmp_ge (tgt := 19) hx hb d_Tab_setPlace_9 (by decide) (fun hc => ?_) (fun hc => ?_)
    · have h := if_t hc h
      cases h
      exact fx_vret X hP hD hS d_Tab_setPlace_19
    · have h := if_f hc h
      refine lv_aload_n hx hb d_Tab_setPlace_12 rfl (lv_at hl 0 rfl) ?_
      refine gF_tab_places X hP d_Tab_setPlace_13 ?_
      refine lv_iload_n hx hb d_Tab_setPlace_16 rfl (lv_at hl 1 rfl) ?_
      refine lv_iload_n hx hb d_Tab_setPlace_17 rfl (lv_at hl 2 rfl) ?_
      obtain ⟨g1, e1, h⟩ := bd_some h
      refine sF_6 X hP hD hS e1 d_Tab_setPlace_18 (fun H locs hP hD hS => ?_)
      cases h
      exact fx_vret X hP hD hS d_Tab_setPlace_19
theorem d_Tab_lowestId_0 : decode prog_9_method_4_code 0 = .ok (.iconst 1, 1) := by decide +kernel
theorem d_Tab_lowestId_1 : decode prog_9_method_4_code 1 = .ok (.istore_n 1, 1) := by decide +kernel
theorem d_Tab_lowestId_2 : decode prog_9_method_4_code 2 = .ok (.iload_n 1, 1) := by decide +kernel
theorem d_Tab_lowestId_3 : decode prog_9_method_4_code 3 = .ok (.sipush 250, 3) := by decide +kernel
theorem d_Tab_lowestId_6 : decode prog_9_method_4_code 6 = .ok (.if_icmp .gt 29, 3) := by decide +kernel
theorem d_Tab_lowestId_9 : decode prog_9_method_4_code 9 = .ok (.aload_n 0, 1) := by decide +kernel
theorem d_Tab_lowestId_10 : decode prog_9_method_4_code 10 = .ok (.getfield 9, 3) := by decide +kernel
theorem d_Tab_lowestId_13 : decode prog_9_method_4_code 13 = .ok (.iload_n 1, 1) := by decide +kernel
theorem d_Tab_lowestId_14 : decode prog_9_method_4_code 14 = .ok (.iaload, 1) := by decide +kernel
theorem d_Tab_lowestId_15 : decode prog_9_method_4_code 15 = .ok (.ifCond .ne 14, 3) := by decide +kernel
theorem d_Tab_lowestId_18 : decode prog_9_method_4_code 18 = .ok (.aload_n 0, 1) := by decide +kernel
theorem d_Tab_lowestId_19 : decode prog_9_method_4_code 19 = .ok (.getfield 15, 3) := by decide +kernel
theorem d_Tab_lowestId_22 : decode prog_9_method_4_code 22 = .ok (.iload_n 1, 1) := by decide +kernel
theorem d_Tab_lowestId_23 : decode prog_9_method_4_code 23 = .ok (.iaload, 1) := by decide +kernel
theorem d_Tab_lowestId_24 : decode prog_9_method_4_code 24 = .ok (.ifCond .ne 5, 3) := by decide +kernel
theorem d_Tab_lowestId_27 : decode prog_9_method_4_code 27 = .ok (.iload_n 1, 1) := by decide +kernel
theorem d_Tab_lowestId_28 : decode prog_9_method_4_code 28 = .ok (.ireturn, 1) := by decide +kernel
theorem d_Tab_lowestId_29 : decode prog_9_method_4_code 29 = .ok (.iinc 1 1, 3) := by decide +kernel
theorem d_Tab_lowestId_32 : decode prog_9_method_4_code 32 = .ok (.goto (-30), 3) := by decide +kernel
theorem d_Tab_lowestId_35 : decode prog_9_method_4_code 35 = .ok (.iconst 0, 1) := by decide +kernel
theorem d_Tab_lowestId_36 : decode prog_9_method_4_code 36 = .ok (.ireturn, 1) := by decide +kernel
set_option maxHeartbeats 4000000 in
set_option maxRecDepth 100000 in
theorem v_Tab_lowestId_29 {p : Program} {l : Launch} {e : Env} {s : State} {m : MethodId} {args : Array Value} {below : List Frame} {meth : Method} {c : Code} {D : va_G} {ad : Nat → Nat} {ca : Nat → ClassId} {A : Nat → Prop} {FU : Nat} {q : Int32} {g : St} (X : FX p s m meth c prog_9_method_4_code 2 (some .int) "FlashFiles$Table" D (tyF ca) A) {k2 : Int32 → St → Option (Int32)} (hk2 : ∀ (y1 : Int32) (H : Heap) (locs : List Loc) (ls : Array Slot), va_P D cls (wF ad ca g) H → va_D A (wF ad ca g) → va_S A s.heap H locs → lv_has ls 2 [(0, .ref (ad 4)), (1, .int y1)] → k2 y1 g = some q → W p l e (rmN 1) s m args below meth c H locs 0 0 (MQ below (fxQi D (tyF ca) A (wF ad ca g) q) args s 0 0 A) (F0 m 2 ls [])) {y1 : Int32}  {H : Heap} {locs : List Loc} {ls : Array Slot} (hP : va_P D cls (wF ad ca g) H) (hD : va_D A (wF ad ca g)) (hS : va_S A s.heap H locs) (hl : lv_has ls 2 [(0, .ref (ad 4)), (1, .int y1)]) (h : Tab_lowestId_b29 FU k2 y1 g = some q) : W p l e (rmN 1) s m args below meth c H locs 0 0 (MQ below (fxQi D (tyF ca) A (wF ad ca g) q) args s 0 0 A) (F0 m 29 ls []) := by
  have hx := X.1
  have hb := X.2.1
  unfold Tab_lowestId_b29 at h
  refine lv_iinc (k := 1) (v := (y1 + (1 : Int32))) hx hb d_Tab_lowestId_29 hl rfl (oi_1 _) (by decide) rfl (fun ls hl => ?_)
  have hl : lv_has ls 2 [(1, .int (y1 + (1 : Int32))), (0, .ref (ad 4))] := hl
  refine lv_goto (tgt := 2) hx hb d_Tab_lowestId_32 (by decide) ?_
  exact hk2 _ _ _ _ hP hD hS (lv_sub hl [1, 0] rfl) h
set_option maxHeartbeats 4000000 in
set_option maxRecDepth 100000 in
theorem v_Tab_lowestId_2 {p : Program} {l : Launch} {e : Env} {s : State} {m : MethodId} {args : Array Value} {below : List Frame} {meth : Method} {c : Code} {D : va_G} {ad : Nat → Nat} {ca : Nat → ClassId} {A : Nat → Prop} {FU : Nat} {q : Int32} {g : St} (X : FX p s m meth c prog_9_method_4_code 2 (some .int) "FlashFiles$Table" D (tyF ca) A) : ∀ (n : Nat), ∀ (y1 : Int32) (H : Heap) (locs : List Loc) (ls : Array Slot), va_P D cls (wF ad ca g) H → va_D A (wF ad ca g) → va_S A s.heap H locs → lv_has ls 2 [(0, .ref (ad 4)), (1, .int y1)] → Tab_lowestId_b2 FU n y1 g = some q → W p l e (rmN 1) s m args below meth c H locs 0 0 (MQ below (fxQi D (tyF ca) A (wF ad ca g) q) args s 0 0 A) (F0 m 2 ls []) := by
  have hx := X.1
  have hb := X.2.1
  intro n
  induction n with
  | zero =>
    intro y1 H locs ls hP hD hS hl h
    cases h
  | succ n ih =>
    intro y1 H locs ls hP hD hS hl h
    have h := h
    rw [Tab_lowestId_b2.eq_2] at h
    refine lv_iload_n hx hb d_Tab_lowestId_2 rfl (lv_at hl 1 rfl) ?_
    refine lv_sipush (v := 250) hx hb d_Tab_lowestId_3 (by decide) ?_
    refine lv_icmp_gt (tgt := 35) hx hb d_Tab_lowestId_6 (by decide) (fun hc => ?_) (fun hc => ?_)
    · have h := if_t hc h
      refine lv_iconst (v := 0) hx hb d_Tab_lowestId_35 (by decide) ?_
      cases h
      exact fx_iret X hP hD hS d_Tab_lowestId_36
    · have h := if_f hc h
      refine lv_aload_n hx hb d_Tab_lowestId_9 rfl (lv_at hl 0 rfl) ?_
      refine gF_tab_places X hP d_Tab_lowestId_10 ?_
      refine lv_iload_n hx hb d_Tab_lowestId_13 rfl (lv_at hl 1 rfl) ?_
      obtain ⟨v1, e1, h⟩ := bd_some h
      refine rF_6 X hP e1 d_Tab_lowestId_14 ?_
      refine lv_if_ne (tgt := 29) hx hb d_Tab_lowestId_15 (by decide) (fun hc => ?_) (fun hc => ?_)
      · have h := if_f hc h
        exact v_Tab_lowestId_29 X ih hP hD hS (lv_sub hl [0, 1] rfl) h
      · have h := if_t hc h
        refine lv_aload_n hx hb d_Tab_lowestId_18 rfl (lv_at hl 0 rfl) ?_
        refine gF_tab_kept X hP d_Tab_lowestId_19 ?_
        refine lv_iload_n hx hb d_Tab_lowestId_22 rfl (lv_at hl 1 rfl) ?_
        obtain ⟨v2, e1, h⟩ := bd_some h
        refine rF_7 X hP e1 d_Tab_lowestId_23 ?_
        refine lv_if_ne (tgt := 29) hx hb d_Tab_lowestId_24 (by decide) (fun hc => ?_) (fun hc => ?_)
        · have h := if_f hc h
          exact v_Tab_lowestId_29 X ih hP hD hS (lv_sub hl [0, 1] rfl) h
        · have h := if_t hc h
          refine lv_iload_n hx hb d_Tab_lowestId_27 rfl (lv_at hl 1 rfl) ?_
          cases h
          exact fx_iret X hP hD hS d_Tab_lowestId_28
set_option maxHeartbeats 4000000 in
set_option maxRecDepth 100000 in
theorem m_Tab_lowestId {l : Launch} {D : va_G} {ad : Nat → Nat} {ca : Nat → ClassId} {FU : Nat} {g : St} {q : Int32} (h : Tab_lowestId FU  g = some q) : CI l ⟨"FlashFiles$Table", "lowestId", "()I"⟩ prog_9_method_4_code 2 1 (some .int) D (tyF ca) (wF ad ca g) [.ref (ad 4)] q (wF ad ca g) := by
  intro sz
  refine Met.fx (Qc := fun A => fxQi D (tyF ca) A (wF ad ca g) q) (by decide) (Nat.le_of_ble_eq_true rfl) ?_
  intro p e s m below meth c A ls X hP hD hl
  have hl : lv_has ls 2 [(0, .ref (ad 4))] := hl
  have hS : va_S A s.heap s.heap [] := va_S.rf
  have hx := X.1
  have hb := X.2.1
  unfold Tab_lowestId at h
  refine lv_iconst (v := 1) hx hb d_Tab_lowestId_0 (by decide) ?_
  refine lv_istore_n hx hb d_Tab_lowestId_1 rfl hl (by decide) rfl (fun ls hl => ?_)
  have hl : lv_has ls 2 [(1, .int (1 : Int32)), (0, .ref (ad 4))] := hl
  exact v_Tab_lowestId_2 X  _ _ _ _ _ hP hD hS (lv_sub hl [1, 0] rfl) h
theorem d_Tab_giveNumber_0 : decode prog_9_method_5_code 0 = .ok (.sipush 251, 3) := by decide +kernel
theorem d_Tab_giveNumber_3 : decode prog_9_method_5_code 3 = .ok (.istore_n 1, 1) := by decide +kernel
theorem d_Tab_giveNumber_4 : decode prog_9_method_5_code 4 = .ok (.iload_n 1, 1) := by decide +kernel
theorem d_Tab_giveNumber_5 : decode prog_9_method_5_code 5 = .ok (.sipush 2048, 3) := by decide +kernel
theorem d_Tab_giveNumber_8 : decode prog_9_method_5_code 8 = .ok (.if_icmp .ge 27, 3) := by decide +kernel
theorem d_Tab_giveNumber_11 : decode prog_9_method_5_code 11 = .ok (.aload_n 0, 1) := by decide +kernel
theorem d_Tab_giveNumber_12 : decode prog_9_method_5_code 12 = .ok (.getfield 15, 3) := by decide +kernel
theorem d_Tab_giveNumber_15 : decode prog_9_method_5_code 15 = .ok (.iload_n 1, 1) := by decide +kernel
theorem d_Tab_giveNumber_16 : decode prog_9_method_5_code 16 = .ok (.iaload, 1) := by decide +kernel
theorem d_Tab_giveNumber_17 : decode prog_9_method_5_code 17 = .ok (.ifCond .ne 12, 3) := by decide +kernel
theorem d_Tab_giveNumber_20 : decode prog_9_method_5_code 20 = .ok (.aload_n 0, 1) := by decide +kernel
theorem d_Tab_giveNumber_21 : decode prog_9_method_5_code 21 = .ok (.getfield 15, 3) := by decide +kernel
theorem d_Tab_giveNumber_24 : decode prog_9_method_5_code 24 = .ok (.iload_n 1, 1) := by decide +kernel
theorem d_Tab_giveNumber_25 : decode prog_9_method_5_code 25 = .ok (.iconst 1, 1) := by decide +kernel
theorem d_Tab_giveNumber_26 : decode prog_9_method_5_code 26 = .ok (.iastore, 1) := by decide +kernel
theorem d_Tab_giveNumber_27 : decode prog_9_method_5_code 27 = .ok (.iload_n 1, 1) := by decide +kernel
theorem d_Tab_giveNumber_28 : decode prog_9_method_5_code 28 = .ok (.ireturn, 1) := by decide +kernel
theorem d_Tab_giveNumber_29 : decode prog_9_method_5_code 29 = .ok (.iinc 1 1, 3) := by decide +kernel
theorem d_Tab_giveNumber_32 : decode prog_9_method_5_code 32 = .ok (.goto (-28), 3) := by decide +kernel
theorem d_Tab_giveNumber_35 : decode prog_9_method_5_code 35 = .ok (.iconst 0, 1) := by decide +kernel
theorem d_Tab_giveNumber_36 : decode prog_9_method_5_code 36 = .ok (.ireturn, 1) := by decide +kernel
set_option maxHeartbeats 4000000 in
set_option maxRecDepth 100000 in
theorem v_Tab_giveNumber_4 {p : Program} {l : Launch} {e : Env} {s : State} {m : MethodId} {args : Array Value} {below : List Frame} {meth : Method} {c : Code} {D : va_G} {ad : Nat → Nat} {ca : Nat → ClassId} {A : Nat → Prop} {FU : Nat} {q : Int32 × St} (X : FX p s m meth c prog_9_method_5_code 2 (some .int) "FlashFiles$Table" D (tyF ca) A) : ∀ (n : Nat), ∀ (y1 : Int32) (g : St) (H : Heap) (locs : List Loc) (ls : Array Slot), va_P D cls (wF ad ca g) H → va_D A (wF ad ca g) → va_S A s.heap H locs → lv_has ls 2 [(0, .ref (ad 4)), (1, .int y1)] → Tab_giveNumber_b4 FU n y1 g = some q → W p l e (rmN 1) s m args below meth c H locs 0 0 (MQ below (fxQi D (tyF ca) A (wF ad ca q.2) q.1) args s 0 0 A) (F0 m 4 ls []) := by
  have hx := X.1
  have hb := X.2.1
  intro n
  induction n with
  | zero =>
    intro y1 g H locs ls hP hD hS hl h
    cases h
  | succ n ih =>
    intro y1 g H locs ls hP hD hS hl h
    have h := h
    rw [Tab_giveNumber_b4.eq_2] at h
    refine lv_iload_n hx hb d_Tab_giveNumber_4 rfl (lv_at hl 1 rfl) ?_
    refine lv_sipush (v := 2048) hx hb d_Tab_giveNumber_5 (by decide) ?_
    refine lv_icmp_ge (tgt := 35) hx hb d_Tab_giveNumber_8 (by decide) (fun hc => ?_) (fun hc => ?_)
    · have h := if_t hc h
      refine lv_iconst (v := 0) hx hb d_Tab_giveNumber_35 (by decide) ?_
      cases h
      exact fx_iret X hP hD hS d_Tab_giveNumber_36
    · have h := if_f hc h
      refine lv_aload_n hx hb d_Tab_giveNumber_11 rfl (lv_at hl 0 rfl) ?_
      refine gF_tab_kept X hP d_Tab_giveNumber_12 ?_
      refine lv_iload_n hx hb d_Tab_giveNumber_15 rfl (lv_at hl 1 rfl) ?_
      obtain ⟨v1, e1, h⟩ := bd_some h
      refine rF_7 X hP e1 d_Tab_giveNumber_16 ?_
      refine lv_if_ne (tgt := 29) hx hb d_Tab_giveNumber_17 (by decide) (fun hc => ?_) (fun hc => ?_)
      · have h := if_f hc h
        refine lv_iinc (k := 1) (v := (y1 + (1 : Int32))) hx hb d_Tab_giveNumber_29 hl rfl (oi_1 _) (by decide) rfl (fun ls hl => ?_)
        have hl : lv_has ls 2 [(1, .int (y1 + (1 : Int32))), (0, .ref (ad 4))] := hl
        refine lv_goto (tgt := 4) hx hb d_Tab_giveNumber_32 (by decide) ?_
        exact ih _ _ _ _ _ hP hD hS (lv_sub hl [1, 0] rfl) h
      · have h := if_t hc h
        refine lv_aload_n hx hb d_Tab_giveNumber_20 rfl (lv_at hl 0 rfl) ?_
        refine gF_tab_kept X hP d_Tab_giveNumber_21 ?_
        refine lv_iload_n hx hb d_Tab_giveNumber_24 rfl (lv_at hl 1 rfl) ?_
        refine lv_iconst (v := 1) hx hb d_Tab_giveNumber_25 (by decide) ?_
        obtain ⟨g2, e1, h⟩ := bd_some h
        refine sF_7 X hP hD hS e1 d_Tab_giveNumber_26 (fun H locs hP hD hS => ?_)
        refine lv_iload_n hx hb d_Tab_giveNumber_27 rfl (lv_at hl 1 rfl) ?_
        cases h
        exact fx_iret X hP hD hS d_Tab_giveNumber_28
set_option maxHeartbeats 4000000 in
set_option maxRecDepth 100000 in
theorem m_Tab_giveNumber {l : Launch} {D : va_G} {ad : Nat → Nat} {ca : Nat → ClassId} {FU : Nat} {g : St} {q : Int32 × St} (h : Tab_giveNumber FU  g = some q) : CI l ⟨"FlashFiles$Table", "giveNumber", "()I"⟩ prog_9_method_5_code 2 1 (some .int) D (tyF ca) (wF ad ca g) [.ref (ad 4)] q.1 (wF ad ca q.2) := by
  intro sz
  refine Met.fx (Qc := fun A => fxQi D (tyF ca) A (wF ad ca q.2) q.1) (by decide) (Nat.le_of_ble_eq_true rfl) ?_
  intro p e s m below meth c A ls X hP hD hl
  have hl : lv_has ls 2 [(0, .ref (ad 4))] := hl
  have hS : va_S A s.heap s.heap [] := va_S.rf
  have hx := X.1
  have hb := X.2.1
  unfold Tab_giveNumber at h
  refine lv_sipush (v := 251) hx hb d_Tab_giveNumber_0 (by decide) ?_
  refine lv_istore_n hx hb d_Tab_giveNumber_3 rfl hl (by decide) rfl (fun ls hl => ?_)
  have hl : lv_has ls 2 [(1, .int (251 : Int32)), (0, .ref (ad 4))] := hl
  exact v_Tab_giveNumber_4 X  _ _ _ _ _ _ hP hD hS (lv_sub hl [1, 0] rfl) h
theorem d_Tab_idsInUse_0 : decode prog_9_method_6_code 0 = .ok (.iconst 0, 1) := by decide +kernel
theorem d_Tab_idsInUse_1 : decode prog_9_method_6_code 1 = .ok (.istore_n 1, 1) := by decide +kernel
theorem d_Tab_idsInUse_2 : decode prog_9_method_6_code 2 = .ok (.iconst 1, 1) := by decide +kernel
theorem d_Tab_idsInUse_3 : decode prog_9_method_6_code 3 = .ok (.istore_n 2, 1) := by decide +kernel
theorem d_Tab_idsInUse_4 : decode prog_9_method_6_code 4 = .ok (.iload_n 2, 1) := by decide +kernel
theorem d_Tab_idsInUse_5 : decode prog_9_method_6_code 5 = .ok (.sipush 250, 3) := by decide +kernel
theorem d_Tab_idsInUse_8 : decode prog_9_method_6_code 8 = .ok (.if_icmp .gt 21, 3) := by decide +kernel
theorem d_Tab_idsInUse_11 : decode prog_9_method_6_code 11 = .ok (.aload_n 0, 1) := by decide +kernel
theorem d_Tab_idsInUse_12 : decode prog_9_method_6_code 12 = .ok (.getfield 9, 3) := by decide +kernel
theorem d_Tab_idsInUse_15 : decode prog_9_method_6_code 15 = .ok (.iload_n 2, 1) := by decide +kernel
theorem d_Tab_idsInUse_16 : decode prog_9_method_6_code 16 = .ok (.iaload, 1) := by decide +kernel
theorem d_Tab_idsInUse_17 : decode prog_9_method_6_code 17 = .ok (.ifCond .eq 6, 3) := by decide +kernel
theorem d_Tab_idsInUse_20 : decode prog_9_method_6_code 20 = .ok (.iinc 1 1, 3) := by decide +kernel
theorem d_Tab_idsInUse_23 : decode prog_9_method_6_code 23 = .ok (.iinc 2 1, 3) := by decide +kernel
theorem d_Tab_idsInUse_26 : decode prog_9_method_6_code 26 = .ok (.goto (-22), 3) := by decide +kernel
theorem d_Tab_idsInUse_29 : decode prog_9_method_6_code 29 = .ok (.iload_n 1, 1) := by decide +kernel
theorem d_Tab_idsInUse_30 : decode prog_9_method_6_code 30 = .ok (.ireturn, 1) := by decide +kernel
set_option maxHeartbeats 4000000 in
set_option maxRecDepth 100000 in
theorem v_Tab_idsInUse_23 {p : Program} {l : Launch} {e : Env} {s : State} {m : MethodId} {args : Array Value} {below : List Frame} {meth : Method} {c : Code} {D : va_G} {ad : Nat → Nat} {ca : Nat → ClassId} {A : Nat → Prop} {FU : Nat} {q : Int32} {g : St} (X : FX p s m meth c prog_9_method_6_code 3 (some .int) "FlashFiles$Table" D (tyF ca) A) {k4 : Int32 → Int32 → St → Option (Int32)} (hk4 : ∀ (y1 y2 : Int32) (H : Heap) (locs : List Loc) (ls : Array Slot), va_P D cls (wF ad ca g) H → va_D A (wF ad ca g) → va_S A s.heap H locs → lv_has ls 3 [(0, .ref (ad 4)), (1, .int y1), (2, .int y2)] → k4 y1 y2 g = some q → W p l e (rmN 1) s m args below meth c H locs 0 0 (MQ below (fxQi D (tyF ca) A (wF ad ca g) q) args s 0 0 A) (F0 m 4 ls [])) {y1 : Int32} {y2 : Int32}  {H : Heap} {locs : List Loc} {ls : Array Slot} (hP : va_P D cls (wF ad ca g) H) (hD : va_D A (wF ad ca g)) (hS : va_S A s.heap H locs) (hl : lv_has ls 3 [(0, .ref (ad 4)), (1, .int y1), (2, .int y2)]) (h : Tab_idsInUse_b23 FU k4 y1 y2 g = some q) : W p l e (rmN 1) s m args below meth c H locs 0 0 (MQ below (fxQi D (tyF ca) A (wF ad ca g) q) args s 0 0 A) (F0 m 23 ls []) := by
  have hx := X.1
  have hb := X.2.1
  unfold Tab_idsInUse_b23 at h
  refine lv_iinc (k := 2) (v := (y2 + (1 : Int32))) hx hb d_Tab_idsInUse_23 hl rfl (oi_1 _) (by decide) rfl (fun ls hl => ?_)
  have hl : lv_has ls 3 [(2, .int (y2 + (1 : Int32))), (0, .ref (ad 4)), (1, .int y1)] := hl
  refine lv_goto (tgt := 4) hx hb d_Tab_idsInUse_26 (by decide) ?_
  exact hk4 _ _ _ _ _ hP hD hS (lv_sub hl [1, 2, 0] rfl) h
set_option maxHeartbeats 4000000 in
set_option maxRecDepth 100000 in
theorem v_Tab_idsInUse_4 {p : Program} {l : Launch} {e : Env} {s : State} {m : MethodId} {args : Array Value} {below : List Frame} {meth : Method} {c : Code} {D : va_G} {ad : Nat → Nat} {ca : Nat → ClassId} {A : Nat → Prop} {FU : Nat} {q : Int32} {g : St} (X : FX p s m meth c prog_9_method_6_code 3 (some .int) "FlashFiles$Table" D (tyF ca) A) : ∀ (n : Nat), ∀ (y1 y2 : Int32) (H : Heap) (locs : List Loc) (ls : Array Slot), va_P D cls (wF ad ca g) H → va_D A (wF ad ca g) → va_S A s.heap H locs → lv_has ls 3 [(0, .ref (ad 4)), (1, .int y1), (2, .int y2)] → Tab_idsInUse_b4 FU n y1 y2 g = some q → W p l e (rmN 1) s m args below meth c H locs 0 0 (MQ below (fxQi D (tyF ca) A (wF ad ca g) q) args s 0 0 A) (F0 m 4 ls []) := by
  have hx := X.1
  have hb := X.2.1
  intro n
  induction n with
  | zero =>
    intro y1 y2 H locs ls hP hD hS hl h
    cases h
  | succ n ih =>
    intro y1 y2 H locs ls hP hD hS hl h
    have h := h
    rw [Tab_idsInUse_b4.eq_2] at h
    refine lv_iload_n hx hb d_Tab_idsInUse_4 rfl (lv_at hl 2 rfl) ?_
    refine lv_sipush (v := 250) hx hb d_Tab_idsInUse_5 (by decide) ?_
    refine lv_icmp_gt (tgt := 29) hx hb d_Tab_idsInUse_8 (by decide) (fun hc => ?_) (fun hc => ?_)
    · have h := if_t hc h
      refine lv_iload_n hx hb d_Tab_idsInUse_29 rfl (lv_at hl 1 rfl) ?_
      cases h
      exact fx_iret X hP hD hS d_Tab_idsInUse_30
    · have h := if_f hc h
      refine lv_aload_n hx hb d_Tab_idsInUse_11 rfl (lv_at hl 0 rfl) ?_
      refine gF_tab_places X hP d_Tab_idsInUse_12 ?_
      refine lv_iload_n hx hb d_Tab_idsInUse_15 rfl (lv_at hl 2 rfl) ?_
      obtain ⟨v1, e1, h⟩ := bd_some h
      refine rF_6 X hP e1 d_Tab_idsInUse_16 ?_
      refine lv_if_eq (tgt := 23) hx hb d_Tab_idsInUse_17 (by decide) (fun hc => ?_) (fun hc => ?_)
      · have h := if_t hc h
        exact v_Tab_idsInUse_23 X ih hP hD hS (lv_sub hl [0, 1, 2] rfl) h
      · have h := if_f hc h
        refine lv_iinc (k := 1) (v := (y1 + (1 : Int32))) hx hb d_Tab_idsInUse_20 hl rfl (oi_1 _) (by decide) rfl (fun ls hl => ?_)
        have hl : lv_has ls 3 [(1, .int (y1 + (1 : Int32))), (0, .ref (ad 4)), (2, .int y2)] := hl
        exact v_Tab_idsInUse_23 X ih hP hD hS (lv_sub hl [1, 0, 2] rfl) h
set_option maxHeartbeats 4000000 in
set_option maxRecDepth 100000 in
theorem m_Tab_idsInUse {l : Launch} {D : va_G} {ad : Nat → Nat} {ca : Nat → ClassId} {FU : Nat} {g : St} {q : Int32} (h : Tab_idsInUse FU  g = some q) : CI l ⟨"FlashFiles$Table", "idsInUse", "()I"⟩ prog_9_method_6_code 3 1 (some .int) D (tyF ca) (wF ad ca g) [.ref (ad 4)] q (wF ad ca g) := by
  intro sz
  refine Met.fx (Qc := fun A => fxQi D (tyF ca) A (wF ad ca g) q) (by decide) (Nat.le_of_ble_eq_true rfl) ?_
  intro p e s m below meth c A ls X hP hD hl
  have hl : lv_has ls 3 [(0, .ref (ad 4))] := hl
  have hS : va_S A s.heap s.heap [] := va_S.rf
  have hx := X.1
  have hb := X.2.1
  unfold Tab_idsInUse at h
  refine lv_iconst (v := 0) hx hb d_Tab_idsInUse_0 (by decide) ?_
  refine lv_istore_n hx hb d_Tab_idsInUse_1 rfl hl (by decide) rfl (fun ls hl => ?_)
  have hl : lv_has ls 3 [(1, .int (0 : Int32)), (0, .ref (ad 4))] := hl
  refine lv_iconst (v := 1) hx hb d_Tab_idsInUse_2 (by decide) ?_
  refine lv_istore_n hx hb d_Tab_idsInUse_3 rfl hl (by decide) rfl (fun ls hl => ?_)
  have hl : lv_has ls 3 [(2, .int (1 : Int32)), (1, .int (0 : Int32)), (0, .ref (ad 4))] := hl
  exact v_Tab_idsInUse_4 X  _ _ _ _ _ _ hP hD hS (lv_sub hl [2, 1, 0] rfl) h
theorem d_Tab_isStirred_0 : decode prog_9_method_7_code 0 = .ok (.iload_n 1, 1) := by decide +kernel
theorem d_Tab_isStirred_1 : decode prog_9_method_7_code 1 = .ok (.iconst 1, 1) := by decide +kernel
theorem d_Tab_isStirred_2 : decode prog_9_method_7_code 2 = .ok (.if_icmp .lt 23, 3) := by decide +kernel
theorem d_Tab_isStirred_5 : decode prog_9_method_7_code 5 = .ok (.iload_n 1, 1) := by decide +kernel
theorem d_Tab_isStirred_6 : decode prog_9_method_7_code 6 = .ok (.sipush 250, 3) := by decide +kernel
theorem d_Tab_isStirred_9 : decode prog_9_method_7_code 9 = .ok (.if_icmp .gt 16, 3) := by decide +kernel
theorem d_Tab_isStirred_12 : decode prog_9_method_7_code 12 = .ok (.aload_n 0, 1) := by decide +kernel
theorem d_Tab_isStirred_13 : decode prog_9_method_7_code 13 = .ok (.getfield 18, 3) := by decide +kernel
theorem d_Tab_isStirred_16 : decode prog_9_method_7_code 16 = .ok (.iload_n 1, 1) := by decide +kernel
theorem d_Tab_isStirred_17 : decode prog_9_method_7_code 17 = .ok (.baload, 1) := by decide +kernel
theorem d_Tab_isStirred_18 : decode prog_9_method_7_code 18 = .ok (.ifCond .eq 7, 3) := by decide +kernel
theorem d_Tab_isStirred_21 : decode prog_9_method_7_code 21 = .ok (.iconst 1, 1) := by decide +kernel
theorem d_Tab_isStirred_22 : decode prog_9_method_7_code 22 = .ok (.goto 4, 3) := by decide +kernel
theorem d_Tab_isStirred_25 : decode prog_9_method_7_code 25 = .ok (.iconst 0, 1) := by decide +kernel
theorem d_Tab_isStirred_26 : decode prog_9_method_7_code 26 = .ok (.ireturn, 1) := by decide +kernel
set_option maxHeartbeats 4000000 in
set_option maxRecDepth 100000 in
theorem m_Tab_isStirred {l : Launch} {D : va_G} {ad : Nat → Nat} {ca : Nat → ClassId} {FU : Nat} {x1 : Int32} {g : St} {q : Int32} (h : Tab_isStirred FU x1 g = some q) : CI l ⟨"FlashFiles$Table", "isStirred", "(I)Z"⟩ prog_9_method_7_code 2 1 (some .boolean) D (tyF ca) (wF ad ca g) [.ref (ad 4), .int x1] q (wF ad ca g) := by
  intro sz
  refine Met.fx (Qc := fun A => fxQi D (tyF ca) A (wF ad ca g) q) (by decide) (Nat.le_of_ble_eq_true rfl) ?_
  intro p e s m below meth c A ls X hP hD hl
  have hl : lv_has ls 2 [(0, .ref (ad 4)), (1, .int x1)] := hl
  have hS : va_S A s.heap s.heap [] := va_S.rf
  have hx := X.1
  have hb := X.2.1
  unfold Tab_isStirred at h
  refine lv_iload_n hx hb d_Tab_isStirred_0 rfl (lv_at hl 1 rfl) ?_
  refine lv_iconst (v := 1) hx hb d_Tab_isStirred_1 (by decide) ?_
  refine lv_icmp_lt (tgt := 25) hx hb d_Tab_isStirred_2 (by decide) (fun hc => ?_) (fun hc => ?_)
  · have h := if_t hc h
    refine lv_iconst (v := 0) hx hb d_Tab_isStirred_25 (by decide) ?_
    cases h
    exact fx_zret X hP hD hS (Or.inl rfl) d_Tab_isStirred_26
  · have h := if_f hc h
    refine lv_iload_n hx hb d_Tab_isStirred_5 rfl (lv_at hl 1 rfl) ?_
    refine lv_sipush (v := 250) hx hb d_Tab_isStirred_6 (by decide) ?_
    refine lv_icmp_gt (tgt := 25) hx hb d_Tab_isStirred_9 (by decide) (fun hc => ?_) (fun hc => ?_)
    · have h := if_t hc h
      refine lv_iconst (v := 0) hx hb d_Tab_isStirred_25 (by decide) ?_
      cases h
      exact fx_zret X hP hD hS (Or.inl rfl) d_Tab_isStirred_26
    · have h := if_f hc h
      refine lv_aload_n hx hb d_Tab_isStirred_12 rfl (lv_at hl 0 rfl) ?_
      refine gF_tab_stirred X hP d_Tab_isStirred_13 ?_
      refine lv_iload_n hx hb d_Tab_isStirred_16 rfl (lv_at hl 1 rfl) ?_
      obtain ⟨v1, e1, h⟩ := bd_some h
      refine rF_8 X hP e1 d_Tab_isStirred_17 ?_
      refine lv_if_eq (tgt := 25) hx hb d_Tab_isStirred_18 (by decide) (fun hc => ?_) (fun hc => ?_)
      · have h := if_t hc h
        refine lv_iconst (v := 0) hx hb d_Tab_isStirred_25 (by decide) ?_
        cases h
        exact fx_zret X hP hD hS (Or.inl rfl) d_Tab_isStirred_26
      · have h := if_f hc h
        refine lv_iconst (v := 1) hx hb d_Tab_isStirred_21 (by decide) ?_
        refine lv_goto (tgt := 26) hx hb d_Tab_isStirred_22 (by decide) ?_
        cases h
        exact fx_zret X hP hD hS (Or.inr rfl) d_Tab_isStirred_26
theorem d_Tab_stir_0 : decode prog_9_method_8_code 0 = .ok (.iload_n 1, 1) := by decide +kernel
theorem d_Tab_stir_1 : decode prog_9_method_8_code 1 = .ok (.iconst 1, 1) := by decide +kernel
theorem d_Tab_stir_2 : decode prog_9_method_8_code 2 = .ok (.if_icmp .lt 17, 3) := by decide +kernel
theorem d_Tab_stir_5 : decode prog_9_method_8_code 5 = .ok (.iload_n 1, 1) := by decide +kernel
theorem d_Tab_stir_6 : decode prog_9_method_8_code 6 = .ok (.sipush 250, 3) := by decide +kernel
theorem d_Tab_stir_9 : decode prog_9_method_8_code 9 = .ok (.if_icmp .gt 10, 3) := by decide +kernel
theorem d_Tab_stir_12 : decode prog_9_method_8_code 12 = .ok (.aload_n 0, 1) := by decide +kernel
theorem d_Tab_stir_13 : decode prog_9_method_8_code 13 = .ok (.getfield 18, 3) := by decide +kernel
theorem d_Tab_stir_16 : decode prog_9_method_8_code 16 = .ok (.iload_n 1, 1) := by decide +kernel
theorem d_Tab_stir_17 : decode prog_9_method_8_code 17 = .ok (.iconst 1, 1) := by decide +kernel
theorem d_Tab_stir_18 : decode prog_9_method_8_code 18 = .ok (.bastore, 1) := by decide +kernel
theorem d_Tab_stir_19 : decode prog_9_method_8_code 19 = .ok (.return_, 1) := by decide +kernel
set_option maxHeartbeats 4000000 in
set_option maxRecDepth 100000 in
theorem m_Tab_stir {l : Launch} {D : va_G} {ad : Nat → Nat} {ca : Nat → ClassId} {FU : Nat} {x1 : Int32} {g : St} {q : St} (h : Tab_stir FU x1 g = some q) : CV l ⟨"FlashFiles$Table", "stir", "(I)V"⟩ prog_9_method_8_code 2 1 D (tyF ca) (wF ad ca g) [.ref (ad 4), .int x1] (wF ad ca q) := by
  intro sz
  refine Met.fx (Qc := fun A => fxQv D (tyF ca) A (wF ad ca q)) (by decide) (Nat.le_of_ble_eq_true rfl) ?_
  intro p e s m below meth c A ls X hP hD hl
  have hl : lv_has ls 2 [(0, .ref (ad 4)), (1, .int x1)] := hl
  have hS : va_S A s.heap s.heap [] := va_S.rf
  have hx := X.1
  have hb := X.2.1
  unfold Tab_stir at h
  refine lv_iload_n hx hb d_Tab_stir_0 rfl (lv_at hl 1 rfl) ?_
  refine lv_iconst (v := 1) hx hb d_Tab_stir_1 (by decide) ?_
  refine lv_icmp_lt (tgt := 19) hx hb d_Tab_stir_2 (by decide) (fun hc => ?_) (fun hc => ?_)
  · have h := if_t hc h
    cases h
    exact fx_vret X hP hD hS d_Tab_stir_19
  · have h := if_f hc h
    refine lv_iload_n hx hb d_Tab_stir_5 rfl (lv_at hl 1 rfl) ?_
    refine lv_sipush (v := 250) hx hb d_Tab_stir_6 (by decide) ?_
    refine lv_icmp_gt (tgt := 19) hx hb d_Tab_stir_9 (by decide) (fun hc => ?_) (fun hc => ?_)
    · have h := if_t hc h
      cases h
      exact fx_vret X hP hD hS d_Tab_stir_19
    · have h := if_f hc h
      refine lv_aload_n hx hb d_Tab_stir_12 rfl (lv_at hl 0 rfl) ?_
      refine gF_tab_stirred X hP d_Tab_stir_13 ?_
      refine lv_iload_n hx hb d_Tab_stir_16 rfl (lv_at hl 1 rfl) ?_
      refine lv_iconst (v := 1) hx hb d_Tab_stir_17 (by decide) ?_
      obtain ⟨g1, e1, h⟩ := bd_some h
      refine sF_8 X hP hD hS e1 d_Tab_stir_18 (fun H locs hP hD hS => ?_)
      cases h
      exact fx_vret X hP hD hS d_Tab_stir_19
theorem d_Tab_settle_0 : decode prog_9_method_9_code 0 = .ok (.aload_n 0, 1) := by decide +kernel
theorem d_Tab_settle_1 : decode prog_9_method_9_code 1 = .ok (.getfield 9, 3) := by decide +kernel
theorem d_Tab_settle_4 : decode prog_9_method_9_code 4 = .ok (.iconst 0, 1) := by decide +kernel
theorem d_Tab_settle_5 : decode prog_9_method_9_code 5 = .ok (.aload_n 0, 1) := by decide +kernel
theorem d_Tab_settle_6 : decode prog_9_method_9_code 6 = .ok (.getfield 15, 3) := by decide +kernel
theorem d_Tab_settle_9 : decode prog_9_method_9_code 9 = .ok (.iconst 0, 1) := by decide +kernel
theorem d_Tab_settle_10 : decode prog_9_method_9_code 10 = .ok (.sipush 2048, 3) := by decide +kernel
theorem d_Tab_settle_13 : decode prog_9_method_9_code 13 = .ok (.invokestatic 22, 3) := by decide +kernel
theorem d_Tab_settle_16 : decode prog_9_method_9_code 16 = .ok (.iconst 0, 1) := by decide +kernel
theorem d_Tab_settle_17 : decode prog_9_method_9_code 17 = .ok (.istore_n 1, 1) := by decide +kernel
theorem d_Tab_settle_18 : decode prog_9_method_9_code 18 = .ok (.iload_n 1, 1) := by decide +kernel
theorem d_Tab_settle_19 : decode prog_9_method_9_code 19 = .ok (.sipush 250, 3) := by decide +kernel
theorem d_Tab_settle_22 : decode prog_9_method_9_code 22 = .ok (.if_icmp .gt 16, 3) := by decide +kernel
theorem d_Tab_settle_25 : decode prog_9_method_9_code 25 = .ok (.aload_n 0, 1) := by decide +kernel
theorem d_Tab_settle_26 : decode prog_9_method_9_code 26 = .ok (.getfield 18, 3) := by decide +kernel
theorem d_Tab_settle_29 : decode prog_9_method_9_code 29 = .ok (.iload_n 1, 1) := by decide +kernel
theorem d_Tab_settle_30 : decode prog_9_method_9_code 30 = .ok (.iconst 0, 1) := by decide +kernel
theorem d_Tab_settle_31 : decode prog_9_method_9_code 31 = .ok (.bastore, 1) := by decide +kernel
theorem d_Tab_settle_32 : decode prog_9_method_9_code 32 = .ok (.iinc 1 1, 3) := by decide +kernel
theorem d_Tab_settle_35 : decode prog_9_method_9_code 35 = .ok (.goto (-17), 3) := by decide +kernel
theorem d_Tab_settle_38 : decode prog_9_method_9_code 38 = .ok (.return_, 1) := by decide +kernel
set_option maxHeartbeats 4000000 in
set_option maxRecDepth 100000 in
theorem v_Tab_settle_18 {p : Program} {l : Launch} {e : Env} {s : State} {m : MethodId} {args : Array Value} {below : List Frame} {meth : Method} {c : Code} {D : va_G} {ad : Nat → Nat} {ca : Nat → ClassId} {A : Nat → Prop} {FU : Nat} {q : St} (X : FX p s m meth c prog_9_method_9_code 2 none "FlashFiles$Table" D (tyF ca) A) : ∀ (n : Nat), ∀ (y1 : Int32) (g : St) (H : Heap) (locs : List Loc) (ls : Array Slot), va_P D cls (wF ad ca g) H → va_D A (wF ad ca g) → va_S A s.heap H locs → lv_has ls 2 [(0, .ref (ad 4)), (1, .int y1)] → Tab_settle_b18 FU n y1 g = some q → W p l e (rmN 1) s m args below meth c H locs 0 0 (MQ below (fxQv D (tyF ca) A (wF ad ca q)) args s 0 0 A) (F0 m 18 ls []) := by
  have hx := X.1
  have hb := X.2.1
  intro n
  induction n with
  | zero =>
    intro y1 g H locs ls hP hD hS hl h
    cases h
  | succ n ih =>
    intro y1 g H locs ls hP hD hS hl h
    have h := h
    rw [Tab_settle_b18.eq_2] at h
    refine lv_iload_n hx hb d_Tab_settle_18 rfl (lv_at hl 1 rfl) ?_
    refine lv_sipush (v := 250) hx hb d_Tab_settle_19 (by decide) ?_
    refine lv_icmp_gt (tgt := 38) hx hb d_Tab_settle_22 (by decide) (fun hc => ?_) (fun hc => ?_)
    · have h := if_t hc h
      cases h
      exact fx_vret X hP hD hS d_Tab_settle_38
    · have h := if_f hc h
      refine lv_aload_n hx hb d_Tab_settle_25 rfl (lv_at hl 0 rfl) ?_
      refine gF_tab_stirred X hP d_Tab_settle_26 ?_
      refine lv_iload_n hx hb d_Tab_settle_29 rfl (lv_at hl 1 rfl) ?_
      refine lv_iconst (v := 0) hx hb d_Tab_settle_30 (by decide) ?_
      obtain ⟨g1, e1, h⟩ := bd_some h
      refine sF_8 X hP hD hS e1 d_Tab_settle_31 (fun H locs hP hD hS => ?_)
      refine lv_iinc (k := 1) (v := (y1 + (1 : Int32))) hx hb d_Tab_settle_32 hl rfl (oi_1 _) (by decide) rfl (fun ls hl => ?_)
      have hl : lv_has ls 2 [(1, .int (y1 + (1 : Int32))), (0, .ref (ad 4))] := hl
      refine lv_goto (tgt := 18) hx hb d_Tab_settle_35 (by decide) ?_
      exact ih _ _ _ _ _ hP hD hS (lv_sub hl [1, 0] rfl) h
set_option maxHeartbeats 4000000 in
set_option maxRecDepth 100000 in
theorem m_Tab_settle {l : Launch} {D : va_G} {ad : Nat → Nat} {ca : Nat → ClassId} {FU : Nat} {g : St} {q : St} (h : Tab_settle FU  g = some q) : CV l ⟨"FlashFiles$Table", "settle", "()V"⟩ prog_9_method_9_code 2 1 D (tyF ca) (wF ad ca g) [.ref (ad 4)] (wF ad ca q) := by
  intro sz
  refine Met.fx (Qc := fun A => fxQv D (tyF ca) A (wF ad ca q)) (by decide) (Nat.le_of_ble_eq_true rfl) ?_
  intro p e s m below meth c A ls X hP hD hl
  have hl : lv_has ls 2 [(0, .ref (ad 4))] := hl
  have hS : va_S A s.heap s.heap [] := va_S.rf
  have hx := X.1
  have hb := X.2.1
  unfold Tab_settle at h
  refine lv_aload_n hx hb d_Tab_settle_0 rfl (lv_at hl 0 rfl) ?_
  refine gF_tab_places X hP d_Tab_settle_1 ?_
  refine lv_iconst (v := 0) hx hb d_Tab_settle_4 (by decide) ?_
  refine lv_aload_n hx hb d_Tab_settle_5 rfl (lv_at hl 0 rfl) ?_
  refine gF_tab_kept X hP d_Tab_settle_6 ?_
  refine lv_iconst (v := 0) hx hb d_Tab_settle_9 (by decide) ?_
  refine lv_sipush (v := 2048) hx hb d_Tab_settle_10 (by decide) ?_
  obtain ⟨g2, e1, h⟩ := bd_some h
  refine cpF_6_7 X hP hD hS hl.1.symm (X.2.2.2.2.2.2.1.use q3_216) e1 ⟨Nat.le_of_ble_eq_true rfl, Nat.le_of_ble_eq_true rfl⟩ d_Tab_settle_13 (fun H locs hP hD hS => ?_)
  refine lv_iconst (v := 0) hx hb d_Tab_settle_16 (by decide) ?_
  refine lv_istore_n hx hb d_Tab_settle_17 rfl hl (by decide) rfl (fun ls hl => ?_)
  have hl : lv_has ls 2 [(1, .int (0 : Int32)), (0, .ref (ad 4))] := hl
  exact v_Tab_settle_18 X  _ _ _ _ _ _ hP hD hS (lv_sub hl [1, 0] rfl) h
theorem d_Tab_forget_0 : decode prog_9_method_10_code 0 = .ok (.aload_n 0, 1) := by decide +kernel
theorem d_Tab_forget_1 : decode prog_9_method_10_code 1 = .ok (.getfield 9, 3) := by decide +kernel
theorem d_Tab_forget_4 : decode prog_9_method_10_code 4 = .ok (.iconst 0, 1) := by decide +kernel
theorem d_Tab_forget_5 : decode prog_9_method_10_code 5 = .ok (.invokestatic 28, 3) := by decide +kernel
theorem d_Tab_forget_8 : decode prog_9_method_10_code 8 = .ok (.aload_n 0, 1) := by decide +kernel
theorem d_Tab_forget_9 : decode prog_9_method_10_code 9 = .ok (.invokevirtual 34, 3) := by decide +kernel
theorem d_Tab_forget_12 : decode prog_9_method_10_code 12 = .ok (.return_, 1) := by decide +kernel
set_option maxHeartbeats 4000000 in
set_option maxRecDepth 100000 in
theorem m_Tab_forget {l : Launch} {D : va_G} {ad : Nat → Nat} {ca : Nat → ClassId} {FU : Nat} {g : St} {q : St} (h : Tab_forget FU  g = some q) : CV l ⟨"FlashFiles$Table", "forget", "()V"⟩ prog_9_method_10_code 1 2 D (tyF ca) (wF ad ca g) [.ref (ad 4)] (wF ad ca q) := by
  intro sz
  refine Met.fx (Qc := fun A => fxQv D (tyF ca) A (wF ad ca q)) (by decide) (Nat.le_of_ble_eq_true rfl) ?_
  intro p e s m below meth c A ls X hP hD hl
  have hl : lv_has ls 1 [(0, .ref (ad 4))] := hl
  have hS : va_S A s.heap s.heap [] := va_S.rf
  have hx := X.1
  have hb := X.2.1
  unfold Tab_forget at h
  refine lv_aload_n hx hb d_Tab_forget_0 rfl (lv_at hl 0 rfl) ?_
  refine gF_tab_places X hP d_Tab_forget_1 ?_
  refine lv_iconst (v := 0) hx hb d_Tab_forget_4 (by decide) ?_
  obtain ⟨p1, e1, h⟩ := bd_some h
  refine fx_v X (fx_runS X (m_Arr_fill_0_6 e1 _) (As := [.ref (ad 17), .int (0 : Int32)]) hP hD ks_Tab_28 ⟨Nat.le_of_ble_eq_true rfl, Nat.le_of_ble_eq_true rfl⟩ rfl hl.1 rfl (Nat.le_of_ble_eq_true rfl) d_Tab_forget_5) hD hS (fun H locs hP hD hS => ?_)
  refine lv_aload_n hx hb d_Tab_forget_8 rfl (lv_at hl 0 rfl) ?_
  obtain ⟨p2, e1, h⟩ := bd_some h
  refine fx_v X (fx_runV (As := []) X (m_Tab_settle e1 _) hP hD kv_Tab_34 ⟨Nat.le_of_ble_eq_true rfl, Nat.le_of_ble_eq_true rfl⟩ 4 rfl rfl rfl hl.1 rfl (Nat.le_of_ble_eq_true rfl) d_Tab_forget_9) hD hS (fun H locs hP hD hS => ?_)
  cases h
  exact fx_vret X hP hD hS d_Tab_forget_12
theorem d_Tab_setAside_0 : decode prog_9_method_12_code 0 = .ok (.aload_n 0, 1) := by decide +kernel
theorem d_Tab_setAside_1 : decode prog_9_method_12_code 1 = .ok (.getfield 9, 3) := by decide +kernel
theorem d_Tab_setAside_4 : decode prog_9_method_12_code 4 = .ok (.iconst 0, 1) := by decide +kernel
theorem d_Tab_setAside_5 : decode prog_9_method_12_code 5 = .ok (.aload_n 0, 1) := by decide +kernel
theorem d_Tab_setAside_6 : decode prog_9_method_12_code 6 = .ok (.getfield 15, 3) := by decide +kernel
theorem d_Tab_setAside_9 : decode prog_9_method_12_code 9 = .ok (.iconst 0, 1) := by decide +kernel
theorem d_Tab_setAside_10 : decode prog_9_method_12_code 10 = .ok (.sipush 2048, 3) := by decide +kernel
theorem d_Tab_setAside_13 : decode prog_9_method_12_code 13 = .ok (.invokestatic 22, 3) := by decide +kernel
theorem d_Tab_setAside_16 : decode prog_9_method_12_code 16 = .ok (.aload_n 0, 1) := by decide +kernel
theorem d_Tab_setAside_17 : decode prog_9_method_12_code 17 = .ok (.getfield 9, 3) := by decide +kernel
theorem d_Tab_setAside_20 : decode prog_9_method_12_code 20 = .ok (.sipush 251, 3) := by decide +kernel
theorem d_Tab_setAside_23 : decode prog_9_method_12_code 23 = .ok (.sipush 2048, 3) := by decide +kernel
theorem d_Tab_setAside_26 : decode prog_9_method_12_code 26 = .ok (.iconst 0, 1) := by decide +kernel
theorem d_Tab_setAside_27 : decode prog_9_method_12_code 27 = .ok (.invokestatic 37, 3) := by decide +kernel
theorem d_Tab_setAside_30 : decode prog_9_method_12_code 30 = .ok (.return_, 1) := by decide +kernel
set_option maxHeartbeats 4000000 in
set_option maxRecDepth 100000 in
theorem m_Tab_setAside {l : Launch} {D : va_G} {ad : Nat → Nat} {ca : Nat → ClassId} {FU : Nat} {g : St} {q : St} (h : Tab_setAside FU  g = some q) : CV l ⟨"FlashFiles$Table", "setAside", "()V"⟩ prog_9_method_12_code 1 4 D (tyF ca) (wF ad ca g) [.ref (ad 4)] (wF ad ca q) := by
  intro sz
  refine Met.fx (Qc := fun A => fxQv D (tyF ca) A (wF ad ca q)) (by decide) (Nat.le_of_ble_eq_true rfl) ?_
  intro p e s m below meth c A ls X hP hD hl
  have hl : lv_has ls 1 [(0, .ref (ad 4))] := hl
  have hS : va_S A s.heap s.heap [] := va_S.rf
  have hx := X.1
  have hb := X.2.1
  unfold Tab_setAside at h
  refine lv_aload_n hx hb d_Tab_setAside_0 rfl (lv_at hl 0 rfl) ?_
  refine gF_tab_places X hP d_Tab_setAside_1 ?_
  refine lv_iconst (v := 0) hx hb d_Tab_setAside_4 (by decide) ?_
  refine lv_aload_n hx hb d_Tab_setAside_5 rfl (lv_at hl 0 rfl) ?_
  refine gF_tab_kept X hP d_Tab_setAside_6 ?_
  refine lv_iconst (v := 0) hx hb d_Tab_setAside_9 (by decide) ?_
  refine lv_sipush (v := 2048) hx hb d_Tab_setAside_10 (by decide) ?_
  obtain ⟨g1, e1, h⟩ := bd_some h
  refine cpF_6_7 X hP hD hS hl.1.symm (X.2.2.2.2.2.2.1.use q3_216) e1 ⟨Nat.le_of_ble_eq_true rfl, Nat.le_of_ble_eq_true rfl⟩ d_Tab_setAside_13 (fun H locs hP hD hS => ?_)
  refine lv_aload_n hx hb d_Tab_setAside_16 rfl (lv_at hl 0 rfl) ?_
  refine gF_tab_places X hP d_Tab_setAside_17 ?_
  refine lv_sipush (v := 251) hx hb d_Tab_setAside_20 (by decide) ?_
  refine lv_sipush (v := 2048) hx hb d_Tab_setAside_23 (by decide) ?_
  refine lv_iconst (v := 0) hx hb d_Tab_setAside_26 (by decide) ?_
  obtain ⟨p2, e1, h⟩ := bd_some h
  refine fx_v X (fx_runS X (m_Arr_fill_1_6 e1 _) (As := [.ref (ad 17), .int (251 : Int32), .int (2048 : Int32), .int (0 : Int32)]) hP hD ks_Tab_37 ⟨Nat.le_of_ble_eq_true rfl, Nat.le_of_ble_eq_true rfl⟩ rfl hl.1 rfl (Nat.le_of_ble_eq_true rfl) d_Tab_setAside_27) hD hS (fun H locs hP hD hS => ?_)
  cases h
  exact fx_vret X hP hD hS d_Tab_setAside_30
theorem d_Tab_takeUp_0 : decode prog_9_method_13_code 0 = .ok (.iload_n 1, 1) := by decide +kernel
theorem d_Tab_takeUp_1 : decode prog_9_method_13_code 1 = .ok (.sipush 250, 3) := by decide +kernel
theorem d_Tab_takeUp_4 : decode prog_9_method_13_code 4 = .ok (.if_icmp .le 10, 3) := by decide +kernel
theorem d_Tab_takeUp_7 : decode prog_9_method_13_code 7 = .ok (.iload_n 1, 1) := by decide +kernel
theorem d_Tab_takeUp_8 : decode prog_9_method_13_code 8 = .ok (.sipush 2048, 3) := by decide +kernel
theorem d_Tab_takeUp_11 : decode prog_9_method_13_code 11 = .ok (.if_icmp .lt 5, 3) := by decide +kernel
theorem d_Tab_takeUp_14 : decode prog_9_method_13_code 14 = .ok (.iconst 0, 1) := by decide +kernel
theorem d_Tab_takeUp_15 : decode prog_9_method_13_code 15 = .ok (.ireturn, 1) := by decide +kernel
theorem d_Tab_takeUp_16 : decode prog_9_method_13_code 16 = .ok (.aload_n 0, 1) := by decide +kernel
theorem d_Tab_takeUp_17 : decode prog_9_method_13_code 17 = .ok (.getfield 9, 3) := by decide +kernel
theorem d_Tab_takeUp_20 : decode prog_9_method_13_code 20 = .ok (.iload_n 1, 1) := by decide +kernel
theorem d_Tab_takeUp_21 : decode prog_9_method_13_code 21 = .ok (.aload_n 0, 1) := by decide +kernel
theorem d_Tab_takeUp_22 : decode prog_9_method_13_code 22 = .ok (.getfield 15, 3) := by decide +kernel
theorem d_Tab_takeUp_25 : decode prog_9_method_13_code 25 = .ok (.iload_n 1, 1) := by decide +kernel
theorem d_Tab_takeUp_26 : decode prog_9_method_13_code 26 = .ok (.iaload, 1) := by decide +kernel
theorem d_Tab_takeUp_27 : decode prog_9_method_13_code 27 = .ok (.iastore, 1) := by decide +kernel
theorem d_Tab_takeUp_28 : decode prog_9_method_13_code 28 = .ok (.aload_n 0, 1) := by decide +kernel
theorem d_Tab_takeUp_29 : decode prog_9_method_13_code 29 = .ok (.getfield 9, 3) := by decide +kernel
theorem d_Tab_takeUp_32 : decode prog_9_method_13_code 32 = .ok (.iload_n 1, 1) := by decide +kernel
theorem d_Tab_takeUp_33 : decode prog_9_method_13_code 33 = .ok (.iaload, 1) := by decide +kernel
theorem d_Tab_takeUp_34 : decode prog_9_method_13_code 34 = .ok (.ireturn, 1) := by decide +kernel
set_option maxHeartbeats 4000000 in
set_option maxRecDepth 100000 in
theorem m_Tab_takeUp {l : Launch} {D : va_G} {ad : Nat → Nat} {ca : Nat → ClassId} {FU : Nat} {x1 : Int32} {g : St} {q : Int32 × St} (h : Tab_takeUp FU x1 g = some q) : CI l ⟨"FlashFiles$Table", "takeUp", "(I)I"⟩ prog_9_method_13_code 2 1 (some .int) D (tyF ca) (wF ad ca g) [.ref (ad 4), .int x1] q.1 (wF ad ca q.2) := by
  intro sz
  refine Met.fx (Qc := fun A => fxQi D (tyF ca) A (wF ad ca q.2) q.1) (by decide) (Nat.le_of_ble_eq_true rfl) ?_
  intro p e s m below meth c A ls X hP hD hl
  have hl : lv_has ls 2 [(0, .ref (ad 4)), (1, .int x1)] := hl
  have hS : va_S A s.heap s.heap [] := va_S.rf
  have hx := X.1
  have hb := X.2.1
  unfold Tab_takeUp at h
  refine lv_iload_n hx hb d_Tab_takeUp_0 rfl (lv_at hl 1 rfl) ?_
  refine lv_sipush (v := 250) hx hb d_Tab_takeUp_1 (by decide) ?_
  refine lv_icmp_le (tgt := 14) hx hb d_Tab_takeUp_4 (by decide) (fun hc => ?_) (fun hc => ?_)
  · have h := if_t hc h
    refine lv_iconst (v := 0) hx hb d_Tab_takeUp_14 (by decide) ?_
    cases h
    exact fx_iret X hP hD hS d_Tab_takeUp_15
  · have h := if_f hc h
    refine lv_iload_n hx hb d_Tab_takeUp_7 rfl (lv_at hl 1 rfl) ?_
    refine lv_sipush (v := 2048) hx hb d_Tab_takeUp_8 (by decide) ?_
    refine lv_icmp_lt (tgt := 16) hx hb d_Tab_takeUp_11 (by decide) (fun hc => ?_) (fun hc => ?_)
    · have h := if_t hc h
      refine lv_aload_n hx hb d_Tab_takeUp_16 rfl (lv_at hl 0 rfl) ?_
      refine gF_tab_places X hP d_Tab_takeUp_17 ?_
      refine lv_iload_n hx hb d_Tab_takeUp_20 rfl (lv_at hl 1 rfl) ?_
      refine lv_aload_n hx hb d_Tab_takeUp_21 rfl (lv_at hl 0 rfl) ?_
      refine gF_tab_kept X hP d_Tab_takeUp_22 ?_
      refine lv_iload_n hx hb d_Tab_takeUp_25 rfl (lv_at hl 1 rfl) ?_
      obtain ⟨v1, e1, h⟩ := bd_some h
      refine rF_7 X hP e1 d_Tab_takeUp_26 ?_
      obtain ⟨g2, e1, h⟩ := bd_some h
      refine sF_6 X hP hD hS e1 d_Tab_takeUp_27 (fun H locs hP hD hS => ?_)
      refine lv_aload_n hx hb d_Tab_takeUp_28 rfl (lv_at hl 0 rfl) ?_
      refine gF_tab_places X hP d_Tab_takeUp_29 ?_
      refine lv_iload_n hx hb d_Tab_takeUp_32 rfl (lv_at hl 1 rfl) ?_
      obtain ⟨v3, e1, h⟩ := bd_some h
      refine rF_6 X hP e1 d_Tab_takeUp_33 ?_
      cases h
      exact fx_iret X hP hD hS d_Tab_takeUp_34
    · have h := if_f hc h
      refine lv_iconst (v := 0) hx hb d_Tab_takeUp_14 (by decide) ?_
      cases h
      exact fx_iret X hP hD hS d_Tab_takeUp_15
theorem d_Tab_copyInto_0 : decode prog_9_method_11_code 0 = .ok (.aload_n 0, 1) := by decide +kernel
theorem d_Tab_copyInto_1 : decode prog_9_method_11_code 1 = .ok (.getfield 9, 3) := by decide +kernel
theorem d_Tab_copyInto_4 : decode prog_9_method_11_code 4 = .ok (.iconst 0, 1) := by decide +kernel
theorem d_Tab_copyInto_5 : decode prog_9_method_11_code 5 = .ok (.aload_n 1, 1) := by decide +kernel
theorem d_Tab_copyInto_6 : decode prog_9_method_11_code 6 = .ok (.bipush 64, 2) := by decide +kernel
theorem d_Tab_copyInto_8 : decode prog_9_method_11_code 8 = .ok (.sipush 2048, 3) := by decide +kernel
theorem d_Tab_copyInto_11 : decode prog_9_method_11_code 11 = .ok (.invokestatic 22, 3) := by decide +kernel
theorem d_Tab_copyInto_14 : decode prog_9_method_11_code 14 = .ok (.return_, 1) := by decide +kernel
set_option maxHeartbeats 4000000 in
set_option maxRecDepth 100000 in
theorem m_Tab_copyInto_22 {l : Launch} {D : va_G} {ad : Nat → Nat} {ca : Nat → ClassId} {FU : Nat} {g : St} {q : St} (h : Tab_copyInto FU 22 g = some q) : CV l ⟨"FlashFiles$Table", "copyInto", "([I)V"⟩ prog_9_method_11_code 2 1 D (tyF ca) (wF ad ca g) [.ref (ad 4), .ref (ad 33)] (wF ad ca q) := by
  intro sz
  refine Met.fx (Qc := fun A => fxQv D (tyF ca) A (wF ad ca q)) (by decide) (Nat.le_of_ble_eq_true rfl) ?_
  intro p e s m below meth c A ls X hP hD hl
  have hl : lv_has ls 2 [(0, .ref (ad 4)), (1, .ref (ad 33))] := hl
  have hS : va_S A s.heap s.heap [] := va_S.rf
  have hx := X.1
  have hb := X.2.1
  unfold Tab_copyInto at h
  refine lv_aload_n hx hb d_Tab_copyInto_0 rfl (lv_at hl 0 rfl) ?_
  refine gF_tab_places X hP d_Tab_copyInto_1 ?_
  refine lv_iconst (v := 0) hx hb d_Tab_copyInto_4 (by decide) ?_
  refine lv_aload_n hx hb d_Tab_copyInto_5 rfl (lv_at hl 1 rfl) ?_
  refine lv_bipush (v := 64) hx hb d_Tab_copyInto_6 (by decide) ?_
  refine lv_sipush (v := 2048) hx hb d_Tab_copyInto_8 (by decide) ?_
  obtain ⟨g1, e1, h⟩ := bd_some h
  refine cpF_6_22 X hP hD hS hl.1.symm (X.2.2.2.2.2.2.1.use q3_216) e1 ⟨Nat.le_of_ble_eq_true rfl, Nat.le_of_ble_eq_true rfl⟩ d_Tab_copyInto_11 (fun H locs hP hD hS => ?_)
  cases h
  exact fx_vret X hP hD hS d_Tab_copyInto_14
