theorem d_Dev_word_0 : decode prog_4_method_2_code 0 = .ok (.iload_n 1, 1) := by decide +kernel
theorem d_Dev_word_1 : decode prog_4_method_2_code 1 = .ok (.ifCond .lt 20, 3) := by decide +kernel
theorem d_Dev_word_4 : decode prog_4_method_2_code 4 = .ok (.iload_n 1, 1) := by decide +kernel
theorem d_Dev_word_5 : decode prog_4_method_2_code 5 = .ok (.sipush 2117, 3) := by decide +kernel
theorem d_Dev_word_8 : decode prog_4_method_2_code 8 = .ok (.if_icmp .ge 13, 3) := by decide +kernel
theorem d_Dev_word_11 : decode prog_4_method_2_code 11 = .ok (.iload_n 2, 1) := by decide +kernel
theorem d_Dev_word_12 : decode prog_4_method_2_code 12 = .ok (.ifCond .lt 9, 3) := by decide +kernel
theorem d_Dev_word_15 : decode prog_4_method_2_code 15 = .ok (.iload_n 2, 1) := by decide +kernel
theorem d_Dev_word_16 : decode prog_4_method_2_code 16 = .ok (.bipush 64, 2) := by decide +kernel
theorem d_Dev_word_18 : decode prog_4_method_2_code 18 = .ok (.if_icmp .lt 7, 3) := by decide +kernel
theorem d_Dev_word_21 : decode prog_4_method_2_code 21 = .ok (.iconst 0, 1) := by decide +kernel
theorem d_Dev_word_22 : decode prog_4_method_2_code 22 = .ok (.goto 14, 3) := by decide +kernel
theorem d_Dev_word_25 : decode prog_4_method_2_code 25 = .ok (.aload_n 0, 1) := by decide +kernel
theorem d_Dev_word_26 : decode prog_4_method_2_code 26 = .ok (.getfield 10, 3) := by decide +kernel
theorem d_Dev_word_29 : decode prog_4_method_2_code 29 = .ok (.iload_n 1, 1) := by decide +kernel
theorem d_Dev_word_30 : decode prog_4_method_2_code 30 = .ok (.bipush 64, 2) := by decide +kernel
theorem d_Dev_word_32 : decode prog_4_method_2_code 32 = .ok (.imul, 1) := by decide +kernel
theorem d_Dev_word_33 : decode prog_4_method_2_code 33 = .ok (.iload_n 2, 1) := by decide +kernel
theorem d_Dev_word_34 : decode prog_4_method_2_code 34 = .ok (.iadd, 1) := by decide +kernel
theorem d_Dev_word_35 : decode prog_4_method_2_code 35 = .ok (.iaload, 1) := by decide +kernel
theorem d_Dev_word_36 : decode prog_4_method_2_code 36 = .ok (.ireturn, 1) := by decide +kernel
set_option maxHeartbeats 4000000 in
set_option maxRecDepth 100000 in
theorem m_Dev_word {l : Launch} {D : va_G} {ad : Nat → Nat} {ca : Nat → ClassId} {FU : Nat} {x1 : Int32} {x2 : Int32} {g : St} {q : Int32} (h : Dev_word FU x1 x2 g = some q) : CI l ⟨"FlashFiles$Device", "word", "(II)I"⟩ prog_4_method_2_code 3 1 (some .int) D (tyF ca) (wF ad ca g) [.ref (ad 3), .int x1, .int x2] q (wF ad ca g) := by
  intro sz
  refine Met.fx (Qc := fun A => fxQi D (tyF ca) A (wF ad ca g) q) (by decide) (Nat.le_of_ble_eq_true rfl) ?_
  intro p e s m below meth c A ls X hP hD hl
  have hl : lv_has ls 3 [(0, .ref (ad 3)), (1, .int x1), (2, .int x2)] := hl
  have hS : va_S A s.heap s.heap [] := va_S.rf
  have hx := X.1
  have hb := X.2.1
  unfold Dev_word at h
  refine lv_iload_n hx hb d_Dev_word_0 rfl (lv_at hl 1 rfl) ?_
  refine lv_if_lt (tgt := 21) hx hb d_Dev_word_1 (by decide) (fun hc => ?_) (fun hc => ?_)
  · have h := if_t hc h
    refine lv_iconst (v := 0) hx hb d_Dev_word_21 (by decide) ?_
    refine lv_goto (tgt := 36) hx hb d_Dev_word_22 (by decide) ?_
    cases h
    exact fx_iret X hP hD hS d_Dev_word_36
  · have h := if_f hc h
    refine lv_iload_n hx hb d_Dev_word_4 rfl (lv_at hl 1 rfl) ?_
    refine lv_sipush (v := 2117) hx hb d_Dev_word_5 (by decide) ?_
    refine lv_icmp_ge (tgt := 21) hx hb d_Dev_word_8 (by decide) (fun hc => ?_) (fun hc => ?_)
    · have h := if_t hc h
      refine lv_iconst (v := 0) hx hb d_Dev_word_21 (by decide) ?_
      refine lv_goto (tgt := 36) hx hb d_Dev_word_22 (by decide) ?_
      cases h
      exact fx_iret X hP hD hS d_Dev_word_36
    · have h := if_f hc h
      refine lv_iload_n hx hb d_Dev_word_11 rfl (lv_at hl 2 rfl) ?_
      refine lv_if_lt (tgt := 21) hx hb d_Dev_word_12 (by decide) (fun hc => ?_) (fun hc => ?_)
      · have h := if_t hc h
        refine lv_iconst (v := 0) hx hb d_Dev_word_21 (by decide) ?_
        refine lv_goto (tgt := 36) hx hb d_Dev_word_22 (by decide) ?_
        cases h
        exact fx_iret X hP hD hS d_Dev_word_36
      · have h := if_f hc h
        refine lv_iload_n hx hb d_Dev_word_15 rfl (lv_at hl 2 rfl) ?_
        refine lv_bipush (v := 64) hx hb d_Dev_word_16 (by decide) ?_
        refine lv_icmp_lt (tgt := 25) hx hb d_Dev_word_18 (by decide) (fun hc => ?_) (fun hc => ?_)
        · have h := if_t hc h
          refine lv_aload_n hx hb d_Dev_word_25 rfl (lv_at hl 0 rfl) ?_
          refine gF_dev_words X hP d_Dev_word_26 ?_
          refine lv_iload_n hx hb d_Dev_word_29 rfl (lv_at hl 1 rfl) ?_
          refine lv_bipush (v := 64) hx hb d_Dev_word_30 (by decide) ?_
          refine lv_imul hx hb d_Dev_word_32 ?_
          refine lv_iload_n hx hb d_Dev_word_33 rfl (lv_at hl 2 rfl) ?_
          refine lv_iadd hx hb d_Dev_word_34 ?_
          obtain ⟨v1, e1, h⟩ := bd_some h
          refine rF_4 X hP e1 d_Dev_word_35 ?_
          cases h
          exact fx_iret X hP hD hS d_Dev_word_36
        · have h := if_f hc h
          refine lv_iconst (v := 0) hx hb d_Dev_word_21 (by decide) ?_
          refine lv_goto (tgt := 36) hx hb d_Dev_word_22 (by decide) ?_
          cases h
          exact fx_iret X hP hD hS d_Dev_word_36
theorem d_Dev_isWritten_0 : decode prog_4_method_3_code 0 = .ok (.iload_n 1, 1) := by decide +kernel
theorem d_Dev_isWritten_1 : decode prog_4_method_3_code 1 = .ok (.ifCond .lt 23, 3) := by decide +kernel
theorem d_Dev_isWritten_4 : decode prog_4_method_3_code 4 = .ok (.iload_n 1, 1) := by decide +kernel
theorem d_Dev_isWritten_5 : decode prog_4_method_3_code 5 = .ok (.sipush 2117, 3) := by decide +kernel
theorem d_Dev_isWritten_8 : decode prog_4_method_3_code 8 = .ok (.if_icmp .ge 16, 3) := by decide +kernel
theorem d_Dev_isWritten_11 : decode prog_4_method_3_code 11 = .ok (.aload_n 0, 1) := by decide +kernel
theorem d_Dev_isWritten_12 : decode prog_4_method_3_code 12 = .ok (.getfield 16, 3) := by decide +kernel
theorem d_Dev_isWritten_15 : decode prog_4_method_3_code 15 = .ok (.iload_n 1, 1) := by decide +kernel
theorem d_Dev_isWritten_16 : decode prog_4_method_3_code 16 = .ok (.baload, 1) := by decide +kernel
theorem d_Dev_isWritten_17 : decode prog_4_method_3_code 17 = .ok (.ifCond .eq 7, 3) := by decide +kernel
theorem d_Dev_isWritten_20 : decode prog_4_method_3_code 20 = .ok (.iconst 1, 1) := by decide +kernel
theorem d_Dev_isWritten_21 : decode prog_4_method_3_code 21 = .ok (.goto 4, 3) := by decide +kernel
theorem d_Dev_isWritten_24 : decode prog_4_method_3_code 24 = .ok (.iconst 0, 1) := by decide +kernel
theorem d_Dev_isWritten_25 : decode prog_4_method_3_code 25 = .ok (.ireturn, 1) := by decide +kernel
set_option maxHeartbeats 4000000 in
set_option maxRecDepth 100000 in
theorem m_Dev_isWritten {l : Launch} {D : va_G} {ad : Nat → Nat} {ca : Nat → ClassId} {FU : Nat} {x1 : Int32} {g : St} {q : Int32} (h : Dev_isWritten FU x1 g = some q) : CI l ⟨"FlashFiles$Device", "isWritten", "(I)Z"⟩ prog_4_method_3_code 2 1 (some .boolean) D (tyF ca) (wF ad ca g) [.ref (ad 3), .int x1] q (wF ad ca g) := by
  intro sz
  refine Met.fx (Qc := fun A => fxQi D (tyF ca) A (wF ad ca g) q) (by decide) (Nat.le_of_ble_eq_true rfl) ?_
  intro p e s m below meth c A ls X hP hD hl
  have hl : lv_has ls 2 [(0, .ref (ad 3)), (1, .int x1)] := hl
  have hS : va_S A s.heap s.heap [] := va_S.rf
  have hx := X.1
  have hb := X.2.1
  unfold Dev_isWritten at h
  refine lv_iload_n hx hb d_Dev_isWritten_0 rfl (lv_at hl 1 rfl) ?_
  refine lv_if_lt (tgt := 24) hx hb d_Dev_isWritten_1 (by decide) (fun hc => ?_) (fun hc => ?_)
  · have h := if_t hc h
    refine lv_iconst (v := 0) hx hb d_Dev_isWritten_24 (by decide) ?_
    cases h
    exact fx_zret X hP hD hS (Or.inl rfl) d_Dev_isWritten_25
  · have h := if_f hc h
    refine lv_iload_n hx hb d_Dev_isWritten_4 rfl (lv_at hl 1 rfl) ?_
    refine lv_sipush (v := 2117) hx hb d_Dev_isWritten_5 (by decide) ?_
    refine lv_icmp_ge (tgt := 24) hx hb d_Dev_isWritten_8 (by decide) (fun hc => ?_) (fun hc => ?_)
    · have h := if_t hc h
      refine lv_iconst (v := 0) hx hb d_Dev_isWritten_24 (by decide) ?_
      cases h
      exact fx_zret X hP hD hS (Or.inl rfl) d_Dev_isWritten_25
    · have h := if_f hc h
      refine lv_aload_n hx hb d_Dev_isWritten_11 rfl (lv_at hl 0 rfl) ?_
      refine gF_dev_written X hP d_Dev_isWritten_12 ?_
      refine lv_iload_n hx hb d_Dev_isWritten_15 rfl (lv_at hl 1 rfl) ?_
      obtain ⟨v1, e1, h⟩ := bd_some h
      refine rF_5 X hP e1 d_Dev_isWritten_16 ?_
      refine lv_if_eq (tgt := 24) hx hb d_Dev_isWritten_17 (by decide) (fun hc => ?_) (fun hc => ?_)
      · have h := if_t hc h
        refine lv_iconst (v := 0) hx hb d_Dev_isWritten_24 (by decide) ?_
        cases h
        exact fx_zret X hP hD hS (Or.inl rfl) d_Dev_isWritten_25
      · have h := if_f hc h
        refine lv_iconst (v := 1) hx hb d_Dev_isWritten_20 (by decide) ?_
        refine lv_goto (tgt := 25) hx hb d_Dev_isWritten_21 (by decide) ?_
        cases h
        exact fx_zret X hP hD hS (Or.inr rfl) d_Dev_isWritten_25
theorem d_Dev_spoiled_0 : decode prog_4_method_4_code 0 = .ok (.aload_n 0, 1) := by decide +kernel
theorem d_Dev_spoiled_1 : decode prog_4_method_4_code 1 = .ok (.getfield 20, 3) := by decide +kernel
theorem d_Dev_spoiled_4 : decode prog_4_method_4_code 4 = .ok (.ireturn, 1) := by decide +kernel
set_option maxHeartbeats 4000000 in
set_option maxRecDepth 100000 in
theorem m_Dev_spoiled {l : Launch} {D : va_G} {ad : Nat → Nat} {ca : Nat → ClassId} {FU : Nat} {g : St} {q : Int32} (h : Dev_spoiled FU  g = some q) : CI l ⟨"FlashFiles$Device", "spoiled", "()I"⟩ prog_4_method_4_code 1 1 (some .int) D (tyF ca) (wF ad ca g) [.ref (ad 3)] q (wF ad ca g) := by
  intro sz
  refine Met.fx (Qc := fun A => fxQi D (tyF ca) A (wF ad ca g) q) (by decide) (Nat.le_of_ble_eq_true rfl) ?_
  intro p e s m below meth c A ls X hP hD hl
  have hl : lv_has ls 1 [(0, .ref (ad 3))] := hl
  have hS : va_S A s.heap s.heap [] := va_S.rf
  have hx := X.1
  have hb := X.2.1
  unfold Dev_spoiled at h
  refine lv_aload_n hx hb d_Dev_spoiled_0 rfl (lv_at hl 0 rfl) ?_
  refine gF_dev_spoiled X hP d_Dev_spoiled_1 ?_
  cases h
  exact fx_iret X hP hD hS d_Dev_spoiled_4
theorem d_Dev_erase_0 : decode prog_4_method_7_code 0 = .ok (.iload_n 1, 1) := by decide +kernel
theorem d_Dev_erase_1 : decode prog_4_method_7_code 1 = .ok (.iconst 0, 1) := by decide +kernel
theorem d_Dev_erase_2 : decode prog_4_method_7_code 2 = .ok (.invokestatic 30, 3) := by decide +kernel
theorem d_Dev_erase_5 : decode prog_4_method_7_code 5 = .ok (.istore_n 3, 1) := by decide +kernel
theorem d_Dev_erase_6 : decode prog_4_method_7_code 6 = .ok (.iload_n 3, 1) := by decide +kernel
theorem d_Dev_erase_7 : decode prog_4_method_7_code 7 = .ok (.iload_n 1, 1) := by decide +kernel
theorem d_Dev_erase_8 : decode prog_4_method_7_code 8 = .ok (.iload_n 2, 1) := by decide +kernel
theorem d_Dev_erase_9 : decode prog_4_method_7_code 9 = .ok (.iadd, 1) := by decide +kernel
theorem d_Dev_erase_10 : decode prog_4_method_7_code 10 = .ok (.sipush 2117, 3) := by decide +kernel
theorem d_Dev_erase_13 : decode prog_4_method_7_code 13 = .ok (.invokestatic 36, 3) := by decide +kernel
theorem d_Dev_erase_16 : decode prog_4_method_7_code 16 = .ok (.if_icmp .ge 44, 3) := by decide +kernel
theorem d_Dev_erase_19 : decode prog_4_method_7_code 19 = .ok (.aload_n 0, 1) := by decide +kernel
theorem d_Dev_erase_20 : decode prog_4_method_7_code 20 = .ok (.getfield 16, 3) := by decide +kernel
theorem d_Dev_erase_23 : decode prog_4_method_7_code 23 = .ok (.iload_n 3, 1) := by decide +kernel
theorem d_Dev_erase_24 : decode prog_4_method_7_code 24 = .ok (.baload, 1) := by decide +kernel
theorem d_Dev_erase_25 : decode prog_4_method_7_code 25 = .ok (.ifCond .eq 29, 3) := by decide +kernel
theorem d_Dev_erase_28 : decode prog_4_method_7_code 28 = .ok (.aload_n 0, 1) := by decide +kernel
theorem d_Dev_erase_29 : decode prog_4_method_7_code 29 = .ok (.getfield 10, 3) := by decide +kernel
theorem d_Dev_erase_32 : decode prog_4_method_7_code 32 = .ok (.iload_n 3, 1) := by decide +kernel
theorem d_Dev_erase_33 : decode prog_4_method_7_code 33 = .ok (.bipush 64, 2) := by decide +kernel
theorem d_Dev_erase_35 : decode prog_4_method_7_code 35 = .ok (.imul, 1) := by decide +kernel
theorem d_Dev_erase_36 : decode prog_4_method_7_code 36 = .ok (.iload_n 3, 1) := by decide +kernel
theorem d_Dev_erase_37 : decode prog_4_method_7_code 37 = .ok (.bipush 64, 2) := by decide +kernel
theorem d_Dev_erase_39 : decode prog_4_method_7_code 39 = .ok (.imul, 1) := by decide +kernel
theorem d_Dev_erase_40 : decode prog_4_method_7_code 40 = .ok (.bipush 64, 2) := by decide +kernel
theorem d_Dev_erase_42 : decode prog_4_method_7_code 42 = .ok (.iadd, 1) := by decide +kernel
theorem d_Dev_erase_43 : decode prog_4_method_7_code 43 = .ok (.iconst 0, 1) := by decide +kernel
theorem d_Dev_erase_44 : decode prog_4_method_7_code 44 = .ok (.invokestatic 39, 3) := by decide +kernel
theorem d_Dev_erase_47 : decode prog_4_method_7_code 47 = .ok (.aload_n 0, 1) := by decide +kernel
theorem d_Dev_erase_48 : decode prog_4_method_7_code 48 = .ok (.getfield 16, 3) := by decide +kernel
theorem d_Dev_erase_51 : decode prog_4_method_7_code 51 = .ok (.iload_n 3, 1) := by decide +kernel
theorem d_Dev_erase_52 : decode prog_4_method_7_code 52 = .ok (.iconst 0, 1) := by decide +kernel
theorem d_Dev_erase_53 : decode prog_4_method_7_code 53 = .ok (.bastore, 1) := by decide +kernel
theorem d_Dev_erase_54 : decode prog_4_method_7_code 54 = .ok (.iinc 3 1, 3) := by decide +kernel
theorem d_Dev_erase_57 : decode prog_4_method_7_code 57 = .ok (.goto (-51), 3) := by decide +kernel
theorem d_Dev_erase_60 : decode prog_4_method_7_code 60 = .ok (.return_, 1) := by decide +kernel
set_option maxHeartbeats 4000000 in
set_option maxRecDepth 100000 in
theorem v_Dev_erase_54 {p : Program} {l : Launch} {e : Env} {s : State} {m : MethodId} {args : Array Value} {below : List Frame} {meth : Method} {c : Code} {D : va_G} {ad : Nat → Nat} {ca : Nat → ClassId} {A : Nat → Prop} {FU : Nat} {q : St} (X : FX p s m meth c prog_4_method_7_code 4 none "FlashFiles$Device" D (tyF ca) A) {k6 : Int32 → Int32 → Int32 → St → Option (St)} (hk6 : ∀ (y1 y2 y3 : Int32) (g : St) (H : Heap) (locs : List Loc) (ls : Array Slot), va_P D cls (wF ad ca g) H → va_D A (wF ad ca g) → va_S A s.heap H locs → lv_has ls 4 [(0, .ref (ad 3)), (1, .int y1), (2, .int y2), (3, .int y3)] → k6 y1 y2 y3 g = some q → W p l e (rmN 4) s m args below meth c H locs 0 0 (MQ below (fxQv D (tyF ca) A (wF ad ca q)) args s 0 0 A) (F0 m 6 ls [])) {y1 : Int32} {y2 : Int32} {y3 : Int32} {g : St} {H : Heap} {locs : List Loc} {ls : Array Slot} (hP : va_P D cls (wF ad ca g) H) (hD : va_D A (wF ad ca g)) (hS : va_S A s.heap H locs) (hl : lv_has ls 4 [(0, .ref (ad 3)), (1, .int y1), (2, .int y2), (3, .int y3)]) (h : Dev_erase_b54 FU k6 y1 y2 y3 g = some q) : W p l e (rmN 4) s m args below meth c H locs 0 0 (MQ below (fxQv D (tyF ca) A (wF ad ca q)) args s 0 0 A) (F0 m 54 ls []) := by
  have hx := X.1
  have hb := X.2.1
  unfold Dev_erase_b54 at h
  refine lv_iinc (k := 3) (v := (y3 + (1 : Int32))) hx hb d_Dev_erase_54 hl rfl (oi_1 _) (by decide) rfl (fun ls hl => ?_)
  have hl : lv_has ls 4 [(3, .int (y3 + (1 : Int32))), (0, .ref (ad 3)), (1, .int y1), (2, .int y2)] := hl
  refine lv_goto (tgt := 6) hx hb d_Dev_erase_57 (by decide) ?_
  exact hk6 _ _ _ _ _ _ _ hP hD hS (lv_sub hl [1, 2, 3, 0] rfl) h
set_option maxHeartbeats 4000000 in
set_option maxRecDepth 100000 in
theorem v_Dev_erase_6 {p : Program} {l : Launch} {e : Env} {s : State} {m : MethodId} {args : Array Value} {below : List Frame} {meth : Method} {c : Code} {D : va_G} {ad : Nat → Nat} {ca : Nat → ClassId} {A : Nat → Prop} {FU : Nat} {q : St} (X : FX p s m meth c prog_4_method_7_code 4 none "FlashFiles$Device" D (tyF ca) A) : ∀ (n : Nat), ∀ (y1 y2 y3 : Int32) (g : St) (H : Heap) (locs : List Loc) (ls : Array Slot), va_P D cls (wF ad ca g) H → va_D A (wF ad ca g) → va_S A s.heap H locs → lv_has ls 4 [(0, .ref (ad 3)), (1, .int y1), (2, .int y2), (3, .int y3)] → Dev_erase_b6 FU n y1 y2 y3 g = some q → W p l e (rmN 4) s m args below meth c H locs 0 0 (MQ below (fxQv D (tyF ca) A (wF ad ca q)) args s 0 0 A) (F0 m 6 ls []) := by
  have hx := X.1
  have hb := X.2.1
  intro n
  induction n with
  | zero =>
    intro y1 y2 y3 g H locs ls hP hD hS hl h
    cases h
  | succ n ih =>
    intro y1 y2 y3 g H locs ls hP hD hS hl h
    have h := h
    rw [Dev_erase_b6.eq_2] at h
    refine lv_iload_n hx hb d_Dev_erase_6 rfl (lv_at hl 3 rfl) ?_
    refine lv_iload_n hx hb d_Dev_erase_7 rfl (lv_at hl 1 rfl) ?_
    refine lv_iload_n hx hb d_Dev_erase_8 rfl (lv_at hl 2 rfl) ?_
    refine lv_iadd hx hb d_Dev_erase_9 ?_
    refine lv_sipush (v := 2117) hx hb d_Dev_erase_10 (by decide) ?_
    refine va_mmin hx hb (X.2.2.1.trans hl.1.symm) X.2.2.2.2.2.1 (X.2.2.2.2.2.2.1.use q2_192) (X.2.2.2.2.2.2.1.use q2_193) (X.2.2.2.2.2.2.1.use q1_16) (X.2.2.2.2.2.2.1.use math_min) (Nat.le_of_ble_eq_true rfl) (Nat.le_of_ble_eq_true rfl) (Nat.zero_le _) (Nat.zero_le _) d_Dev_erase_13 ?_
    refine lv_icmp_ge (tgt := 60) hx hb d_Dev_erase_16 (by decide) (fun hc => ?_) (fun hc => ?_)
    · have h := if_t hc h
      cases h
      exact fx_vret X hP hD hS d_Dev_erase_60
    · have h := if_f hc h
      refine lv_aload_n hx hb d_Dev_erase_19 rfl (lv_at hl 0 rfl) ?_
      refine gF_dev_written X hP d_Dev_erase_20 ?_
      refine lv_iload_n hx hb d_Dev_erase_23 rfl (lv_at hl 3 rfl) ?_
      obtain ⟨v1, e1, h⟩ := bd_some h
      refine rF_5 X hP e1 d_Dev_erase_24 ?_
      refine lv_if_eq (tgt := 54) hx hb d_Dev_erase_25 (by decide) (fun hc => ?_) (fun hc => ?_)
      · have h := if_t hc h
        exact v_Dev_erase_54 X ih hP hD hS (lv_sub hl [0, 1, 2, 3] rfl) h
      · have h := if_f hc h
        refine lv_aload_n hx hb d_Dev_erase_28 rfl (lv_at hl 0 rfl) ?_
        refine gF_dev_words X hP d_Dev_erase_29 ?_
        refine lv_iload_n hx hb d_Dev_erase_32 rfl (lv_at hl 3 rfl) ?_
        refine lv_bipush (v := 64) hx hb d_Dev_erase_33 (by decide) ?_
        refine lv_imul hx hb d_Dev_erase_35 ?_
        refine lv_iload_n hx hb d_Dev_erase_36 rfl (lv_at hl 3 rfl) ?_
        refine lv_bipush (v := 64) hx hb d_Dev_erase_37 (by decide) ?_
        refine lv_imul hx hb d_Dev_erase_39 ?_
        refine lv_bipush (v := 64) hx hb d_Dev_erase_40 (by decide) ?_
        refine lv_iadd hx hb d_Dev_erase_42 ?_
        refine lv_iconst (v := 0) hx hb d_Dev_erase_43 (by decide) ?_
        obtain ⟨p2, e1, h⟩ := bd_some h
        refine fx_v X (fx_runS X (m_Arr_fill_1_4 e1 _) (As := [.ref (ad 15), .int (y3 * (64 : Int32)), .int ((y3 * (64 : Int32)) + (64 : Int32)), .int (0 : Int32)]) hP hD ks_Dev_39 ⟨Nat.le_of_ble_eq_true rfl, Nat.le_of_ble_eq_true rfl⟩ rfl hl.1 rfl (Nat.le_of_ble_eq_true rfl) d_Dev_erase_44) hD hS (fun H locs hP hD hS => ?_)
        refine lv_aload_n hx hb d_Dev_erase_47 rfl (lv_at hl 0 rfl) ?_
        refine gF_dev_written X hP d_Dev_erase_48 ?_
        refine lv_iload_n hx hb d_Dev_erase_51 rfl (lv_at hl 3 rfl) ?_
        refine lv_iconst (v := 0) hx hb d_Dev_erase_52 (by decide) ?_
        obtain ⟨g3, e1, h⟩ := bd_some h
        refine sF_5 X hP hD hS e1 d_Dev_erase_53 (fun H locs hP hD hS => ?_)
        exact v_Dev_erase_54 X ih hP hD hS (lv_sub hl [0, 1, 2, 3] rfl) h
set_option maxHeartbeats 4000000 in
set_option maxRecDepth 100000 in
theorem m_Dev_erase {l : Launch} {D : va_G} {ad : Nat → Nat} {ca : Nat → ClassId} {FU : Nat} {x1 : Int32} {x2 : Int32} {g : St} {q : St} (h : Dev_erase FU x1 x2 g = some q) : CV l ⟨"FlashFiles$Device", "erase", "(II)V"⟩ prog_4_method_7_code 4 4 D (tyF ca) (wF ad ca g) [.ref (ad 3), .int x1, .int x2] (wF ad ca q) := by
  intro sz
  refine Met.fx (Qc := fun A => fxQv D (tyF ca) A (wF ad ca q)) (by decide) (Nat.le_of_ble_eq_true rfl) ?_
  intro p e s m below meth c A ls X hP hD hl
  have hl : lv_has ls 4 [(0, .ref (ad 3)), (1, .int x1), (2, .int x2)] := hl
  have hS : va_S A s.heap s.heap [] := va_S.rf
  have hx := X.1
  have hb := X.2.1
  unfold Dev_erase at h
  refine lv_iload_n hx hb d_Dev_erase_0 rfl (lv_at hl 1 rfl) ?_
  refine lv_iconst (v := 0) hx hb d_Dev_erase_1 (by decide) ?_
  refine va_mmax hx hb (X.2.2.1.trans hl.1.symm) X.2.2.2.2.2.1 (X.2.2.2.2.2.2.1.use q2_189) (X.2.2.2.2.2.2.1.use q2_190) (X.2.2.2.2.2.2.1.use q1_16) (X.2.2.2.2.2.2.1.use math_max) (Nat.le_of_ble_eq_true rfl) (Nat.le_of_ble_eq_true rfl) (Nat.zero_le _) (Nat.zero_le _) d_Dev_erase_2 ?_
  refine lv_istore_n hx hb d_Dev_erase_5 rfl hl (by decide) rfl (fun ls hl => ?_)
  have hl : lv_has ls 4 [(3, .int (if x1 < (0 : Int32) then (0 : Int32) else x1)), (0, .ref (ad 3)), (1, .int x1), (2, .int x2)] := hl
  exact v_Dev_erase_6 X  _ _ _ _ _ _ _ _ hP hD hS (lv_sub hl [1, 2, 3, 0] rfl) h
theorem d_Dev_restart_0 : decode prog_4_method_8_code 0 = .ok (.aload_n 0, 1) := by decide +kernel
theorem d_Dev_restart_1 : decode prog_4_method_8_code 1 = .ok (.iconst 0, 1) := by decide +kernel
theorem d_Dev_restart_2 : decode prog_4_method_8_code 2 = .ok (.sipush 2117, 3) := by decide +kernel
theorem d_Dev_restart_5 : decode prog_4_method_8_code 5 = .ok (.invokevirtual 45, 3) := by decide +kernel
theorem d_Dev_restart_8 : decode prog_4_method_8_code 8 = .ok (.aload_n 0, 1) := by decide +kernel
theorem d_Dev_restart_9 : decode prog_4_method_8_code 9 = .ok (.iconst 0, 1) := by decide +kernel
theorem d_Dev_restart_10 : decode prog_4_method_8_code 10 = .ok (.putfield 20, 3) := by decide +kernel
theorem d_Dev_restart_13 : decode prog_4_method_8_code 13 = .ok (.return_, 1) := by decide +kernel
set_option maxHeartbeats 4000000 in
set_option maxRecDepth 100000 in
theorem m_Dev_restart {l : Launch} {D : va_G} {ad : Nat → Nat} {ca : Nat → ClassId} {FU : Nat} {g : St} {q : St} (h : Dev_restart FU  g = some q) : CV l ⟨"FlashFiles$Device", "restart", "()V"⟩ prog_4_method_8_code 1 5 D (tyF ca) (wF ad ca g) [.ref (ad 3)] (wF ad ca q) := by
  intro sz
  refine Met.fx (Qc := fun A => fxQv D (tyF ca) A (wF ad ca q)) (by decide) (Nat.le_of_ble_eq_true rfl) ?_
  intro p e s m below meth c A ls X hP hD hl
  have hl : lv_has ls 1 [(0, .ref (ad 3))] := hl
  have hS : va_S A s.heap s.heap [] := va_S.rf
  have hx := X.1
  have hb := X.2.1
  unfold Dev_restart at h
  refine lv_aload_n hx hb d_Dev_restart_0 rfl (lv_at hl 0 rfl) ?_
  refine lv_iconst (v := 0) hx hb d_Dev_restart_1 (by decide) ?_
  refine lv_sipush (v := 2117) hx hb d_Dev_restart_2 (by decide) ?_
  obtain ⟨p1, e1, h⟩ := bd_some h
  refine fx_v X (fx_runV (As := [.int (0 : Int32), .int (2117 : Int32)]) X (m_Dev_erase e1 _) hP hD kv_Dev_45 ⟨Nat.le_of_ble_eq_true rfl, Nat.le_of_ble_eq_true rfl⟩ 3 rfl rfl rfl hl.1 rfl (Nat.le_of_ble_eq_true rfl) d_Dev_restart_5) hD hS (fun H locs hP hD hS => ?_)
  refine lv_aload_n hx hb d_Dev_restart_8 rfl (lv_at hl 0 rfl) ?_
  refine lv_iconst (v := 0) hx hb d_Dev_restart_9 (by decide) ?_
  obtain ⟨g2, e1, h⟩ := nx_some h
  refine uF_dev_spoiled X hP hD hS e1 d_Dev_restart_10 (fun H locs hP hD hS => ?_)
  cases h
  exact fx_vret X hP hD hS d_Dev_restart_13
theorem d_Dev_load_0 : decode prog_4_method_5_code 0 = .ok (.iload_n 1, 1) := by decide +kernel
theorem d_Dev_load_1 : decode prog_4_method_5_code 1 = .ok (.ifCond .lt 25, 3) := by decide +kernel
theorem d_Dev_load_4 : decode prog_4_method_5_code 4 = .ok (.iload_n 1, 1) := by decide +kernel
theorem d_Dev_load_5 : decode prog_4_method_5_code 5 = .ok (.sipush 2117, 3) := by decide +kernel
theorem d_Dev_load_8 : decode prog_4_method_5_code 8 = .ok (.if_icmp .ge 18, 3) := by decide +kernel
theorem d_Dev_load_11 : decode prog_4_method_5_code 11 = .ok (.aload_n 0, 1) := by decide +kernel
theorem d_Dev_load_12 : decode prog_4_method_5_code 12 = .ok (.getfield 10, 3) := by decide +kernel
theorem d_Dev_load_15 : decode prog_4_method_5_code 15 = .ok (.iload_n 1, 1) := by decide +kernel
theorem d_Dev_load_16 : decode prog_4_method_5_code 16 = .ok (.bipush 64, 2) := by decide +kernel
theorem d_Dev_load_18 : decode prog_4_method_5_code 18 = .ok (.imul, 1) := by decide +kernel
theorem d_Dev_load_19 : decode prog_4_method_5_code 19 = .ok (.aload_n 2, 1) := by decide +kernel
theorem d_Dev_load_20 : decode prog_4_method_5_code 20 = .ok (.iconst 0, 1) := by decide +kernel
theorem d_Dev_load_21 : decode prog_4_method_5_code 21 = .ok (.bipush 64, 2) := by decide +kernel
theorem d_Dev_load_23 : decode prog_4_method_5_code 23 = .ok (.invokestatic 24, 3) := by decide +kernel
theorem d_Dev_load_26 : decode prog_4_method_5_code 26 = .ok (.return_, 1) := by decide +kernel
set_option maxHeartbeats 4000000 in
set_option maxRecDepth 100000 in
theorem m_Dev_load_13 {l : Launch} {D : va_G} {ad : Nat → Nat} {ca : Nat → ClassId} {FU : Nat} {x1 : Int32} {g : St} {q : St} (h : Dev_load FU 13 x1 g = some q) : CV l ⟨"FlashFiles$Device", "load", "(I[I)V"⟩ prog_4_method_5_code 3 1 D (tyF ca) (wF ad ca g) [.ref (ad 3), .int x1, .ref (ad 24)] (wF ad ca q) := by
  intro sz
  refine Met.fx (Qc := fun A => fxQv D (tyF ca) A (wF ad ca q)) (by decide) (Nat.le_of_ble_eq_true rfl) ?_
  intro p e s m below meth c A ls X hP hD hl
  have hl : lv_has ls 3 [(0, .ref (ad 3)), (1, .int x1), (2, .ref (ad 24))] := hl
  have hS : va_S A s.heap s.heap [] := va_S.rf
  have hx := X.1
  have hb := X.2.1
  unfold Dev_load at h
  refine lv_iload_n hx hb d_Dev_load_0 rfl (lv_at hl 1 rfl) ?_
  refine lv_if_lt (tgt := 26) hx hb d_Dev_load_1 (by decide) (fun hc => ?_) (fun hc => ?_)
  · have h := if_t hc h
    cases h
    exact fx_vret X hP hD hS d_Dev_load_26
  · have h := if_f hc h
    refine lv_iload_n hx hb d_Dev_load_4 rfl (lv_at hl 1 rfl) ?_
    refine lv_sipush (v := 2117) hx hb d_Dev_load_5 (by decide) ?_
    refine lv_icmp_ge (tgt := 26) hx hb d_Dev_load_8 (by decide) (fun hc => ?_) (fun hc => ?_)
    · have h := if_t hc h
      cases h
      exact fx_vret X hP hD hS d_Dev_load_26
    · have h := if_f hc h
      refine lv_aload_n hx hb d_Dev_load_11 rfl (lv_at hl 0 rfl) ?_
      refine gF_dev_words X hP d_Dev_load_12 ?_
      refine lv_iload_n hx hb d_Dev_load_15 rfl (lv_at hl 1 rfl) ?_
      refine lv_bipush (v := 64) hx hb d_Dev_load_16 (by decide) ?_
      refine lv_imul hx hb d_Dev_load_18 ?_
      refine lv_aload_n hx hb d_Dev_load_19 rfl (lv_at hl 2 rfl) ?_
      refine lv_iconst (v := 0) hx hb d_Dev_load_20 (by decide) ?_
      refine lv_bipush (v := 64) hx hb d_Dev_load_21 (by decide) ?_
      obtain ⟨g1, e1, h⟩ := bd_some h
      refine cpF_4_13 X hP hD hS hl.1.symm (X.2.2.2.2.2.2.1.use q3_206) e1 ⟨Nat.le_of_ble_eq_true rfl, Nat.le_of_ble_eq_true rfl⟩ d_Dev_load_23 (fun H locs hP hD hS => ?_)
      cases h
      exact fx_vret X hP hD hS d_Dev_load_26
set_option maxHeartbeats 4000000 in
set_option maxRecDepth 100000 in
theorem m_Dev_load_14 {l : Launch} {D : va_G} {ad : Nat → Nat} {ca : Nat → ClassId} {FU : Nat} {x1 : Int32} {g : St} {q : St} (h : Dev_load FU 14 x1 g = some q) : CV l ⟨"FlashFiles$Device", "load", "(I[I)V"⟩ prog_4_method_5_code 3 1 D (tyF ca) (wF ad ca g) [.ref (ad 3), .int x1, .ref (ad 25)] (wF ad ca q) := by
  intro sz
  refine Met.fx (Qc := fun A => fxQv D (tyF ca) A (wF ad ca q)) (by decide) (Nat.le_of_ble_eq_true rfl) ?_
  intro p e s m below meth c A ls X hP hD hl
  have hl : lv_has ls 3 [(0, .ref (ad 3)), (1, .int x1), (2, .ref (ad 25))] := hl
  have hS : va_S A s.heap s.heap [] := va_S.rf
  have hx := X.1
  have hb := X.2.1
  unfold Dev_load at h
  refine lv_iload_n hx hb d_Dev_load_0 rfl (lv_at hl 1 rfl) ?_
  refine lv_if_lt (tgt := 26) hx hb d_Dev_load_1 (by decide) (fun hc => ?_) (fun hc => ?_)
  · have h := if_t hc h
    cases h
    exact fx_vret X hP hD hS d_Dev_load_26
  · have h := if_f hc h
    refine lv_iload_n hx hb d_Dev_load_4 rfl (lv_at hl 1 rfl) ?_
    refine lv_sipush (v := 2117) hx hb d_Dev_load_5 (by decide) ?_
    refine lv_icmp_ge (tgt := 26) hx hb d_Dev_load_8 (by decide) (fun hc => ?_) (fun hc => ?_)
    · have h := if_t hc h
      cases h
      exact fx_vret X hP hD hS d_Dev_load_26
    · have h := if_f hc h
      refine lv_aload_n hx hb d_Dev_load_11 rfl (lv_at hl 0 rfl) ?_
      refine gF_dev_words X hP d_Dev_load_12 ?_
      refine lv_iload_n hx hb d_Dev_load_15 rfl (lv_at hl 1 rfl) ?_
      refine lv_bipush (v := 64) hx hb d_Dev_load_16 (by decide) ?_
      refine lv_imul hx hb d_Dev_load_18 ?_
      refine lv_aload_n hx hb d_Dev_load_19 rfl (lv_at hl 2 rfl) ?_
      refine lv_iconst (v := 0) hx hb d_Dev_load_20 (by decide) ?_
      refine lv_bipush (v := 64) hx hb d_Dev_load_21 (by decide) ?_
      obtain ⟨g1, e1, h⟩ := bd_some h
      refine cpF_4_14 X hP hD hS hl.1.symm (X.2.2.2.2.2.2.1.use q3_206) e1 ⟨Nat.le_of_ble_eq_true rfl, Nat.le_of_ble_eq_true rfl⟩ d_Dev_load_23 (fun H locs hP hD hS => ?_)
      cases h
      exact fx_vret X hP hD hS d_Dev_load_26
set_option maxHeartbeats 4000000 in
set_option maxRecDepth 100000 in
theorem m_Dev_load_16 {l : Launch} {D : va_G} {ad : Nat → Nat} {ca : Nat → ClassId} {FU : Nat} {x1 : Int32} {g : St} {q : St} (h : Dev_load FU 16 x1 g = some q) : CV l ⟨"FlashFiles$Device", "load", "(I[I)V"⟩ prog_4_method_5_code 3 1 D (tyF ca) (wF ad ca g) [.ref (ad 3), .int x1, .ref (ad 27)] (wF ad ca q) := by
  intro sz
  refine Met.fx (Qc := fun A => fxQv D (tyF ca) A (wF ad ca q)) (by decide) (Nat.le_of_ble_eq_true rfl) ?_
  intro p e s m below meth c A ls X hP hD hl
  have hl : lv_has ls 3 [(0, .ref (ad 3)), (1, .int x1), (2, .ref (ad 27))] := hl
  have hS : va_S A s.heap s.heap [] := va_S.rf
  have hx := X.1
  have hb := X.2.1
  unfold Dev_load at h
  refine lv_iload_n hx hb d_Dev_load_0 rfl (lv_at hl 1 rfl) ?_
  refine lv_if_lt (tgt := 26) hx hb d_Dev_load_1 (by decide) (fun hc => ?_) (fun hc => ?_)
  · have h := if_t hc h
    cases h
    exact fx_vret X hP hD hS d_Dev_load_26
  · have h := if_f hc h
    refine lv_iload_n hx hb d_Dev_load_4 rfl (lv_at hl 1 rfl) ?_
    refine lv_sipush (v := 2117) hx hb d_Dev_load_5 (by decide) ?_
    refine lv_icmp_ge (tgt := 26) hx hb d_Dev_load_8 (by decide) (fun hc => ?_) (fun hc => ?_)
    · have h := if_t hc h
      cases h
      exact fx_vret X hP hD hS d_Dev_load_26
    · have h := if_f hc h
      refine lv_aload_n hx hb d_Dev_load_11 rfl (lv_at hl 0 rfl) ?_
      refine gF_dev_words X hP d_Dev_load_12 ?_
      refine lv_iload_n hx hb d_Dev_load_15 rfl (lv_at hl 1 rfl) ?_
      refine lv_bipush (v := 64) hx hb d_Dev_load_16 (by decide) ?_
      refine lv_imul hx hb d_Dev_load_18 ?_
      refine lv_aload_n hx hb d_Dev_load_19 rfl (lv_at hl 2 rfl) ?_
      refine lv_iconst (v := 0) hx hb d_Dev_load_20 (by decide) ?_
      refine lv_bipush (v := 64) hx hb d_Dev_load_21 (by decide) ?_
      obtain ⟨g1, e1, h⟩ := bd_some h
      refine cpF_4_16 X hP hD hS hl.1.symm (X.2.2.2.2.2.2.1.use q3_206) e1 ⟨Nat.le_of_ble_eq_true rfl, Nat.le_of_ble_eq_true rfl⟩ d_Dev_load_23 (fun H locs hP hD hS => ?_)
      cases h
      exact fx_vret X hP hD hS d_Dev_load_26
theorem d_Dev_program_0 : decode prog_4_method_6_code 0 = .ok (.iload_n 1, 1) := by decide +kernel
theorem d_Dev_program_1 : decode prog_4_method_6_code 1 = .ok (.ifCond .lt 23, 3) := by decide +kernel
theorem d_Dev_program_4 : decode prog_4_method_6_code 4 = .ok (.iload_n 1, 1) := by decide +kernel
theorem d_Dev_program_5 : decode prog_4_method_6_code 5 = .ok (.sipush 2117, 3) := by decide +kernel
theorem d_Dev_program_8 : decode prog_4_method_6_code 8 = .ok (.if_icmp .ge 16, 3) := by decide +kernel
theorem d_Dev_program_11 : decode prog_4_method_6_code 11 = .ok (.iload_n 3, 1) := by decide +kernel
theorem d_Dev_program_12 : decode prog_4_method_6_code 12 = .ok (.ifCond .lt 12, 3) := by decide +kernel
theorem d_Dev_program_15 : decode prog_4_method_6_code 15 = .ok (.iload_n 3, 1) := by decide +kernel
theorem d_Dev_program_16 : decode prog_4_method_6_code 16 = .ok (.aload_n 2, 1) := by decide +kernel
theorem d_Dev_program_17 : decode prog_4_method_6_code 17 = .ok (.arraylength, 1) := by decide +kernel
theorem d_Dev_program_18 : decode prog_4_method_6_code 18 = .ok (.bipush 64, 2) := by decide +kernel
theorem d_Dev_program_20 : decode prog_4_method_6_code 20 = .ok (.isub, 1) := by decide +kernel
theorem d_Dev_program_21 : decode prog_4_method_6_code 21 = .ok (.if_icmp .le 4, 3) := by decide +kernel
theorem d_Dev_program_24 : decode prog_4_method_6_code 24 = .ok (.return_, 1) := by decide +kernel
theorem d_Dev_program_25 : decode prog_4_method_6_code 25 = .ok (.aload_n 0, 1) := by decide +kernel
theorem d_Dev_program_26 : decode prog_4_method_6_code 26 = .ok (.getfield 16, 3) := by decide +kernel
theorem d_Dev_program_29 : decode prog_4_method_6_code 29 = .ok (.iload_n 1, 1) := by decide +kernel
theorem d_Dev_program_30 : decode prog_4_method_6_code 30 = .ok (.baload, 1) := by decide +kernel
theorem d_Dev_program_31 : decode prog_4_method_6_code 31 = .ok (.ifCond .eq 13, 3) := by decide +kernel
theorem d_Dev_program_34 : decode prog_4_method_6_code 34 = .ok (.aload_n 0, 1) := by decide +kernel
theorem d_Dev_program_35 : decode prog_4_method_6_code 35 = .ok (.dup, 1) := by decide +kernel
theorem d_Dev_program_36 : decode prog_4_method_6_code 36 = .ok (.getfield 20, 3) := by decide +kernel
theorem d_Dev_program_39 : decode prog_4_method_6_code 39 = .ok (.iconst 1, 1) := by decide +kernel
theorem d_Dev_program_40 : decode prog_4_method_6_code 40 = .ok (.iadd, 1) := by decide +kernel
theorem d_Dev_program_41 : decode prog_4_method_6_code 41 = .ok (.putfield 20, 3) := by decide +kernel
theorem d_Dev_program_44 : decode prog_4_method_6_code 44 = .ok (.aload_n 2, 1) := by decide +kernel
theorem d_Dev_program_45 : decode prog_4_method_6_code 45 = .ok (.iload_n 3, 1) := by decide +kernel
theorem d_Dev_program_46 : decode prog_4_method_6_code 46 = .ok (.aload_n 0, 1) := by decide +kernel
theorem d_Dev_program_47 : decode prog_4_method_6_code 47 = .ok (.getfield 10, 3) := by decide +kernel
theorem d_Dev_program_50 : decode prog_4_method_6_code 50 = .ok (.iload_n 1, 1) := by decide +kernel
theorem d_Dev_program_51 : decode prog_4_method_6_code 51 = .ok (.bipush 64, 2) := by decide +kernel
theorem d_Dev_program_53 : decode prog_4_method_6_code 53 = .ok (.imul, 1) := by decide +kernel
theorem d_Dev_program_54 : decode prog_4_method_6_code 54 = .ok (.bipush 64, 2) := by decide +kernel
theorem d_Dev_program_56 : decode prog_4_method_6_code 56 = .ok (.invokestatic 24, 3) := by decide +kernel
theorem d_Dev_program_59 : decode prog_4_method_6_code 59 = .ok (.aload_n 0, 1) := by decide +kernel
theorem d_Dev_program_60 : decode prog_4_method_6_code 60 = .ok (.getfield 16, 3) := by decide +kernel
theorem d_Dev_program_63 : decode prog_4_method_6_code 63 = .ok (.iload_n 1, 1) := by decide +kernel
theorem d_Dev_program_64 : decode prog_4_method_6_code 64 = .ok (.iconst 1, 1) := by decide +kernel
theorem d_Dev_program_65 : decode prog_4_method_6_code 65 = .ok (.bastore, 1) := by decide +kernel
theorem d_Dev_program_66 : decode prog_4_method_6_code 66 = .ok (.return_, 1) := by decide +kernel
set_option maxHeartbeats 4000000 in
set_option maxRecDepth 100000 in
theorem v_Dev_program_44_16 {p : Program} {l : Launch} {e : Env} {s : State} {m : MethodId} {args : Array Value} {below : List Frame} {meth : Method} {c : Code} {D : va_G} {ad : Nat → Nat} {ca : Nat → ClassId} {A : Nat → Prop} {FU : Nat} {q : St} (X : FX p s m meth c prog_4_method_6_code 4 none "FlashFiles$Device" D (tyF ca) A) {y1 : Int32} {y3 : Int32} {g : St} {H : Heap} {locs : List Loc} {ls : Array Slot} (hP : va_P D cls (wF ad ca g) H) (hD : va_D A (wF ad ca g)) (hS : va_S A s.heap H locs) (hl : lv_has ls 4 [(0, .ref (ad 3)), (1, .int y1), (2, .ref (ad 27)), (3, .int y3)]) (h : Dev_program_b44 FU 16 y1 y3 g = some q) : W p l e (rmN 1) s m args below meth c H locs 0 0 (MQ below (fxQv D (tyF ca) A (wF ad ca q)) args s 0 0 A) (F0 m 44 ls []) := by
  have hx := X.1
  have hb := X.2.1
  unfold Dev_program_b44 at h
  refine lv_aload_n hx hb d_Dev_program_44 rfl (lv_at hl 2 rfl) ?_
  refine lv_iload_n hx hb d_Dev_program_45 rfl (lv_at hl 3 rfl) ?_
  refine lv_aload_n hx hb d_Dev_program_46 rfl (lv_at hl 0 rfl) ?_
  refine gF_dev_words X hP d_Dev_program_47 ?_
  refine lv_iload_n hx hb d_Dev_program_50 rfl (lv_at hl 1 rfl) ?_
  refine lv_bipush (v := 64) hx hb d_Dev_program_51 (by decide) ?_
  refine lv_imul hx hb d_Dev_program_53 ?_
  refine lv_bipush (v := 64) hx hb d_Dev_program_54 (by decide) ?_
  obtain ⟨g1, e1, h⟩ := bd_some h
  refine cpF_16_4 X hP hD hS hl.1.symm (X.2.2.2.2.2.2.1.use q3_206) e1 ⟨Nat.le_of_ble_eq_true rfl, Nat.le_of_ble_eq_true rfl⟩ d_Dev_program_56 (fun H locs hP hD hS => ?_)
  refine lv_aload_n hx hb d_Dev_program_59 rfl (lv_at hl 0 rfl) ?_
  refine gF_dev_written X hP d_Dev_program_60 ?_
  refine lv_iload_n hx hb d_Dev_program_63 rfl (lv_at hl 1 rfl) ?_
  refine lv_iconst (v := 1) hx hb d_Dev_program_64 (by decide) ?_
  obtain ⟨g2, e1, h⟩ := bd_some h
  refine sF_5 X hP hD hS e1 d_Dev_program_65 (fun H locs hP hD hS => ?_)
  cases h
  exact fx_vret X hP hD hS d_Dev_program_66
set_option maxHeartbeats 4000000 in
set_option maxRecDepth 100000 in
theorem m_Dev_program_16 {l : Launch} {D : va_G} {ad : Nat → Nat} {ca : Nat → ClassId} {FU : Nat} {x1 : Int32} {x3 : Int32} {g : St} {q : St} (h : Dev_program FU 16 x1 x3 g = some q) : CV l ⟨"FlashFiles$Device", "program", "(I[II)V"⟩ prog_4_method_6_code 4 1 D (tyF ca) (wF ad ca g) [.ref (ad 3), .int x1, .ref (ad 27), .int x3] (wF ad ca q) := by
  intro sz
  refine Met.fx (Qc := fun A => fxQv D (tyF ca) A (wF ad ca q)) (by decide) (Nat.le_of_ble_eq_true rfl) ?_
  intro p e s m below meth c A ls X hP hD hl
  have hl : lv_has ls 4 [(0, .ref (ad 3)), (1, .int x1), (2, .ref (ad 27)), (3, .int x3)] := hl
  have hS : va_S A s.heap s.heap [] := va_S.rf
  have hx := X.1
  have hb := X.2.1
  unfold Dev_program at h
  refine lv_iload_n hx hb d_Dev_program_0 rfl (lv_at hl 1 rfl) ?_
  refine lv_if_lt (tgt := 24) hx hb d_Dev_program_1 (by decide) (fun hc => ?_) (fun hc => ?_)
  · have h := if_t hc h
    cases h
    exact fx_vret X hP hD hS d_Dev_program_24
  · have h := if_f hc h
    refine lv_iload_n hx hb d_Dev_program_4 rfl (lv_at hl 1 rfl) ?_
    refine lv_sipush (v := 2117) hx hb d_Dev_program_5 (by decide) ?_
    refine lv_icmp_ge (tgt := 24) hx hb d_Dev_program_8 (by decide) (fun hc => ?_) (fun hc => ?_)
    · have h := if_t hc h
      cases h
      exact fx_vret X hP hD hS d_Dev_program_24
    · have h := if_f hc h
      refine lv_iload_n hx hb d_Dev_program_11 rfl (lv_at hl 3 rfl) ?_
      refine lv_if_lt (tgt := 24) hx hb d_Dev_program_12 (by decide) (fun hc => ?_) (fun hc => ?_)
      · have h := if_t hc h
        cases h
        exact fx_vret X hP hD hS d_Dev_program_24
      · have h := if_f hc h
        refine lv_iload_n hx hb d_Dev_program_15 rfl (lv_at hl 3 rfl) ?_
        refine lv_aload_n hx hb d_Dev_program_16 rfl (lv_at hl 2 rfl) ?_
        refine va_alen (v := (nI (lenF 16))) hx hb X.2.2.2.2.2.2.2.1 hP 27 16 rfl rfl rfl d_Dev_program_17 ?_
        refine lv_bipush (v := 64) hx hb d_Dev_program_18 (by decide) ?_
        refine lv_isub hx hb d_Dev_program_20 ?_
        refine lv_icmp_le (tgt := 25) hx hb d_Dev_program_21 (by decide) (fun hc => ?_) (fun hc => ?_)
        · have h := if_t hc h
          refine lv_aload_n hx hb d_Dev_program_25 rfl (lv_at hl 0 rfl) ?_
          refine gF_dev_written X hP d_Dev_program_26 ?_
          refine lv_iload_n hx hb d_Dev_program_29 rfl (lv_at hl 1 rfl) ?_
          obtain ⟨v3, e1, h⟩ := bd_some h
          refine rF_5 X hP e1 d_Dev_program_30 ?_
          refine lv_if_eq (tgt := 44) hx hb d_Dev_program_31 (by decide) (fun hc => ?_) (fun hc => ?_)
          · have h := if_t hc h
            exact v_Dev_program_44_16 X  hP hD hS (lv_sub hl [0, 1, 2, 3] rfl) h
          · have h := if_f hc h
            refine lv_aload_n hx hb d_Dev_program_34 rfl (lv_at hl 0 rfl) ?_
            refine lv_dup hx hb d_Dev_program_35 rfl ?_
            refine gF_dev_spoiled X hP d_Dev_program_36 ?_
            refine lv_iconst (v := 1) hx hb d_Dev_program_39 (by decide) ?_
            refine lv_iadd hx hb d_Dev_program_40 ?_
            obtain ⟨g4, e1, h⟩ := nx_some h
            refine uF_dev_spoiled X hP hD hS e1 d_Dev_program_41 (fun H locs hP hD hS => ?_)
            exact v_Dev_program_44_16 X  hP hD hS (lv_sub hl [0, 1, 2, 3] rfl) h
        · have h := if_f hc h
          cases h
          exact fx_vret X hP hD hS d_Dev_program_24
set_option maxHeartbeats 4000000 in
set_option maxRecDepth 100000 in
theorem v_Dev_program_44_15 {p : Program} {l : Launch} {e : Env} {s : State} {m : MethodId} {args : Array Value} {below : List Frame} {meth : Method} {c : Code} {D : va_G} {ad : Nat → Nat} {ca : Nat → ClassId} {A : Nat → Prop} {FU : Nat} {q : St} (X : FX p s m meth c prog_4_method_6_code 4 none "FlashFiles$Device" D (tyF ca) A) {y1 : Int32} {y3 : Int32} {g : St} {H : Heap} {locs : List Loc} {ls : Array Slot} (hP : va_P D cls (wF ad ca g) H) (hD : va_D A (wF ad ca g)) (hS : va_S A s.heap H locs) (hl : lv_has ls 4 [(0, .ref (ad 3)), (1, .int y1), (2, .ref (ad 26)), (3, .int y3)]) (h : Dev_program_b44 FU 15 y1 y3 g = some q) : W p l e (rmN 1) s m args below meth c H locs 0 0 (MQ below (fxQv D (tyF ca) A (wF ad ca q)) args s 0 0 A) (F0 m 44 ls []) := by
  have hx := X.1
  have hb := X.2.1
  unfold Dev_program_b44 at h
  refine lv_aload_n hx hb d_Dev_program_44 rfl (lv_at hl 2 rfl) ?_
  refine lv_iload_n hx hb d_Dev_program_45 rfl (lv_at hl 3 rfl) ?_
  refine lv_aload_n hx hb d_Dev_program_46 rfl (lv_at hl 0 rfl) ?_
  refine gF_dev_words X hP d_Dev_program_47 ?_
  refine lv_iload_n hx hb d_Dev_program_50 rfl (lv_at hl 1 rfl) ?_
  refine lv_bipush (v := 64) hx hb d_Dev_program_51 (by decide) ?_
  refine lv_imul hx hb d_Dev_program_53 ?_
  refine lv_bipush (v := 64) hx hb d_Dev_program_54 (by decide) ?_
  obtain ⟨g1, e1, h⟩ := bd_some h
  refine cpF_15_4 X hP hD hS hl.1.symm (X.2.2.2.2.2.2.1.use q3_206) e1 ⟨Nat.le_of_ble_eq_true rfl, Nat.le_of_ble_eq_true rfl⟩ d_Dev_program_56 (fun H locs hP hD hS => ?_)
  refine lv_aload_n hx hb d_Dev_program_59 rfl (lv_at hl 0 rfl) ?_
  refine gF_dev_written X hP d_Dev_program_60 ?_
  refine lv_iload_n hx hb d_Dev_program_63 rfl (lv_at hl 1 rfl) ?_
  refine lv_iconst (v := 1) hx hb d_Dev_program_64 (by decide) ?_
  obtain ⟨g2, e1, h⟩ := bd_some h
  refine sF_5 X hP hD hS e1 d_Dev_program_65 (fun H locs hP hD hS => ?_)
  cases h
  exact fx_vret X hP hD hS d_Dev_program_66
set_option maxHeartbeats 4000000 in
set_option maxRecDepth 100000 in
theorem m_Dev_program_15 {l : Launch} {D : va_G} {ad : Nat → Nat} {ca : Nat → ClassId} {FU : Nat} {x1 : Int32} {x3 : Int32} {g : St} {q : St} (h : Dev_program FU 15 x1 x3 g = some q) : CV l ⟨"FlashFiles$Device", "program", "(I[II)V"⟩ prog_4_method_6_code 4 1 D (tyF ca) (wF ad ca g) [.ref (ad 3), .int x1, .ref (ad 26), .int x3] (wF ad ca q) := by
  intro sz
  refine Met.fx (Qc := fun A => fxQv D (tyF ca) A (wF ad ca q)) (by decide) (Nat.le_of_ble_eq_true rfl) ?_
  intro p e s m below meth c A ls X hP hD hl
  have hl : lv_has ls 4 [(0, .ref (ad 3)), (1, .int x1), (2, .ref (ad 26)), (3, .int x3)] := hl
  have hS : va_S A s.heap s.heap [] := va_S.rf
  have hx := X.1
  have hb := X.2.1
  unfold Dev_program at h
  refine lv_iload_n hx hb d_Dev_program_0 rfl (lv_at hl 1 rfl) ?_
  refine lv_if_lt (tgt := 24) hx hb d_Dev_program_1 (by decide) (fun hc => ?_) (fun hc => ?_)
  · have h := if_t hc h
    cases h
    exact fx_vret X hP hD hS d_Dev_program_24
  · have h := if_f hc h
    refine lv_iload_n hx hb d_Dev_program_4 rfl (lv_at hl 1 rfl) ?_
    refine lv_sipush (v := 2117) hx hb d_Dev_program_5 (by decide) ?_
    refine lv_icmp_ge (tgt := 24) hx hb d_Dev_program_8 (by decide) (fun hc => ?_) (fun hc => ?_)
    · have h := if_t hc h
      cases h
      exact fx_vret X hP hD hS d_Dev_program_24
    · have h := if_f hc h
      refine lv_iload_n hx hb d_Dev_program_11 rfl (lv_at hl 3 rfl) ?_
      refine lv_if_lt (tgt := 24) hx hb d_Dev_program_12 (by decide) (fun hc => ?_) (fun hc => ?_)
      · have h := if_t hc h
        cases h
        exact fx_vret X hP hD hS d_Dev_program_24
      · have h := if_f hc h
        refine lv_iload_n hx hb d_Dev_program_15 rfl (lv_at hl 3 rfl) ?_
        refine lv_aload_n hx hb d_Dev_program_16 rfl (lv_at hl 2 rfl) ?_
        refine va_alen (v := (nI (lenF 15))) hx hb X.2.2.2.2.2.2.2.1 hP 26 15 rfl rfl rfl d_Dev_program_17 ?_
        refine lv_bipush (v := 64) hx hb d_Dev_program_18 (by decide) ?_
        refine lv_isub hx hb d_Dev_program_20 ?_
        refine lv_icmp_le (tgt := 25) hx hb d_Dev_program_21 (by decide) (fun hc => ?_) (fun hc => ?_)
        · have h := if_t hc h
          refine lv_aload_n hx hb d_Dev_program_25 rfl (lv_at hl 0 rfl) ?_
          refine gF_dev_written X hP d_Dev_program_26 ?_
          refine lv_iload_n hx hb d_Dev_program_29 rfl (lv_at hl 1 rfl) ?_
          obtain ⟨v3, e1, h⟩ := bd_some h
          refine rF_5 X hP e1 d_Dev_program_30 ?_
          refine lv_if_eq (tgt := 44) hx hb d_Dev_program_31 (by decide) (fun hc => ?_) (fun hc => ?_)
          · have h := if_t hc h
            exact v_Dev_program_44_15 X  hP hD hS (lv_sub hl [0, 1, 2, 3] rfl) h
          · have h := if_f hc h
            refine lv_aload_n hx hb d_Dev_program_34 rfl (lv_at hl 0 rfl) ?_
            refine lv_dup hx hb d_Dev_program_35 rfl ?_
            refine gF_dev_spoiled X hP d_Dev_program_36 ?_
            refine lv_iconst (v := 1) hx hb d_Dev_program_39 (by decide) ?_
            refine lv_iadd hx hb d_Dev_program_40 ?_
            obtain ⟨g4, e1, h⟩ := nx_some h
            refine uF_dev_spoiled X hP hD hS e1 d_Dev_program_41 (fun H locs hP hD hS => ?_)
            exact v_Dev_program_44_15 X  hP hD hS (lv_sub hl [0, 1, 2, 3] rfl) h
        · have h := if_f hc h
          cases h
          exact fx_vret X hP hD hS d_Dev_program_24
set_option maxHeartbeats 4000000 in
set_option maxRecDepth 100000 in
theorem v_Dev_program_44_14 {p : Program} {l : Launch} {e : Env} {s : State} {m : MethodId} {args : Array Value} {below : List Frame} {meth : Method} {c : Code} {D : va_G} {ad : Nat → Nat} {ca : Nat → ClassId} {A : Nat → Prop} {FU : Nat} {q : St} (X : FX p s m meth c prog_4_method_6_code 4 none "FlashFiles$Device" D (tyF ca) A) {y1 : Int32} {y3 : Int32} {g : St} {H : Heap} {locs : List Loc} {ls : Array Slot} (hP : va_P D cls (wF ad ca g) H) (hD : va_D A (wF ad ca g)) (hS : va_S A s.heap H locs) (hl : lv_has ls 4 [(0, .ref (ad 3)), (1, .int y1), (2, .ref (ad 25)), (3, .int y3)]) (h : Dev_program_b44 FU 14 y1 y3 g = some q) : W p l e (rmN 1) s m args below meth c H locs 0 0 (MQ below (fxQv D (tyF ca) A (wF ad ca q)) args s 0 0 A) (F0 m 44 ls []) := by
  have hx := X.1
  have hb := X.2.1
  unfold Dev_program_b44 at h
  refine lv_aload_n hx hb d_Dev_program_44 rfl (lv_at hl 2 rfl) ?_
  refine lv_iload_n hx hb d_Dev_program_45 rfl (lv_at hl 3 rfl) ?_
  refine lv_aload_n hx hb d_Dev_program_46 rfl (lv_at hl 0 rfl) ?_
  refine gF_dev_words X hP d_Dev_program_47 ?_
  refine lv_iload_n hx hb d_Dev_program_50 rfl (lv_at hl 1 rfl) ?_
  refine lv_bipush (v := 64) hx hb d_Dev_program_51 (by decide) ?_
  refine lv_imul hx hb d_Dev_program_53 ?_
  refine lv_bipush (v := 64) hx hb d_Dev_program_54 (by decide) ?_
  obtain ⟨g1, e1, h⟩ := bd_some h
  refine cpF_14_4 X hP hD hS hl.1.symm (X.2.2.2.2.2.2.1.use q3_206) e1 ⟨Nat.le_of_ble_eq_true rfl, Nat.le_of_ble_eq_true rfl⟩ d_Dev_program_56 (fun H locs hP hD hS => ?_)
  refine lv_aload_n hx hb d_Dev_program_59 rfl (lv_at hl 0 rfl) ?_
  refine gF_dev_written X hP d_Dev_program_60 ?_
  refine lv_iload_n hx hb d_Dev_program_63 rfl (lv_at hl 1 rfl) ?_
  refine lv_iconst (v := 1) hx hb d_Dev_program_64 (by decide) ?_
  obtain ⟨g2, e1, h⟩ := bd_some h
  refine sF_5 X hP hD hS e1 d_Dev_program_65 (fun H locs hP hD hS => ?_)
  cases h
  exact fx_vret X hP hD hS d_Dev_program_66
set_option maxHeartbeats 4000000 in
set_option maxRecDepth 100000 in
theorem m_Dev_program_14 {l : Launch} {D : va_G} {ad : Nat → Nat} {ca : Nat → ClassId} {FU : Nat} {x1 : Int32} {x3 : Int32} {g : St} {q : St} (h : Dev_program FU 14 x1 x3 g = some q) : CV l ⟨"FlashFiles$Device", "program", "(I[II)V"⟩ prog_4_method_6_code 4 1 D (tyF ca) (wF ad ca g) [.ref (ad 3), .int x1, .ref (ad 25), .int x3] (wF ad ca q) := by
  intro sz
  refine Met.fx (Qc := fun A => fxQv D (tyF ca) A (wF ad ca q)) (by decide) (Nat.le_of_ble_eq_true rfl) ?_
  intro p e s m below meth c A ls X hP hD hl
  have hl : lv_has ls 4 [(0, .ref (ad 3)), (1, .int x1), (2, .ref (ad 25)), (3, .int x3)] := hl
  have hS : va_S A s.heap s.heap [] := va_S.rf
  have hx := X.1
  have hb := X.2.1
  unfold Dev_program at h
  refine lv_iload_n hx hb d_Dev_program_0 rfl (lv_at hl 1 rfl) ?_
  refine lv_if_lt (tgt := 24) hx hb d_Dev_program_1 (by decide) (fun hc => ?_) (fun hc => ?_)
  · have h := if_t hc h
    cases h
    exact fx_vret X hP hD hS d_Dev_program_24
  · have h := if_f hc h
    refine lv_iload_n hx hb d_Dev_program_4 rfl (lv_at hl 1 rfl) ?_
    refine lv_sipush (v := 2117) hx hb d_Dev_program_5 (by decide) ?_
    refine lv_icmp_ge (tgt := 24) hx hb d_Dev_program_8 (by decide) (fun hc => ?_) (fun hc => ?_)
    · have h := if_t hc h
      cases h
      exact fx_vret X hP hD hS d_Dev_program_24
    · have h := if_f hc h
      refine lv_iload_n hx hb d_Dev_program_11 rfl (lv_at hl 3 rfl) ?_
      refine lv_if_lt (tgt := 24) hx hb d_Dev_program_12 (by decide) (fun hc => ?_) (fun hc => ?_)
      · have h := if_t hc h
        cases h
        exact fx_vret X hP hD hS d_Dev_program_24
      · have h := if_f hc h
        refine lv_iload_n hx hb d_Dev_program_15 rfl (lv_at hl 3 rfl) ?_
        refine lv_aload_n hx hb d_Dev_program_16 rfl (lv_at hl 2 rfl) ?_
        refine va_alen (v := (nI (lenF 14))) hx hb X.2.2.2.2.2.2.2.1 hP 25 14 rfl rfl rfl d_Dev_program_17 ?_
        refine lv_bipush (v := 64) hx hb d_Dev_program_18 (by decide) ?_
        refine lv_isub hx hb d_Dev_program_20 ?_
        refine lv_icmp_le (tgt := 25) hx hb d_Dev_program_21 (by decide) (fun hc => ?_) (fun hc => ?_)
        · have h := if_t hc h
          refine lv_aload_n hx hb d_Dev_program_25 rfl (lv_at hl 0 rfl) ?_
          refine gF_dev_written X hP d_Dev_program_26 ?_
          refine lv_iload_n hx hb d_Dev_program_29 rfl (lv_at hl 1 rfl) ?_
          obtain ⟨v3, e1, h⟩ := bd_some h
          refine rF_5 X hP e1 d_Dev_program_30 ?_
          refine lv_if_eq (tgt := 44) hx hb d_Dev_program_31 (by decide) (fun hc => ?_) (fun hc => ?_)
          · have h := if_t hc h
            exact v_Dev_program_44_14 X  hP hD hS (lv_sub hl [0, 1, 2, 3] rfl) h
          · have h := if_f hc h
            refine lv_aload_n hx hb d_Dev_program_34 rfl (lv_at hl 0 rfl) ?_
            refine lv_dup hx hb d_Dev_program_35 rfl ?_
            refine gF_dev_spoiled X hP d_Dev_program_36 ?_
            refine lv_iconst (v := 1) hx hb d_Dev_program_39 (by decide) ?_
            refine lv_iadd hx hb d_Dev_program_40 ?_
            obtain ⟨g4, e1, h⟩ := nx_some h
            refine uF_dev_spoiled X hP hD hS e1 d_Dev_program_41 (fun H locs hP hD hS => ?_)
            exact v_Dev_program_44_14 X  hP hD hS (lv_sub hl [0, 1, 2, 3] rfl) h
        · have h := if_f hc h
          cases h
          exact fx_vret X hP hD hS d_Dev_program_24
set_option maxHeartbeats 4000000 in
set_option maxRecDepth 100000 in
theorem v_Dev_program_44_13 {p : Program} {l : Launch} {e : Env} {s : State} {m : MethodId} {args : Array Value} {below : List Frame} {meth : Method} {c : Code} {D : va_G} {ad : Nat → Nat} {ca : Nat → ClassId} {A : Nat → Prop} {FU : Nat} {q : St} (X : FX p s m meth c prog_4_method_6_code 4 none "FlashFiles$Device" D (tyF ca) A) {y1 : Int32} {y3 : Int32} {g : St} {H : Heap} {locs : List Loc} {ls : Array Slot} (hP : va_P D cls (wF ad ca g) H) (hD : va_D A (wF ad ca g)) (hS : va_S A s.heap H locs) (hl : lv_has ls 4 [(0, .ref (ad 3)), (1, .int y1), (2, .ref (ad 24)), (3, .int y3)]) (h : Dev_program_b44 FU 13 y1 y3 g = some q) : W p l e (rmN 1) s m args below meth c H locs 0 0 (MQ below (fxQv D (tyF ca) A (wF ad ca q)) args s 0 0 A) (F0 m 44 ls []) := by
  have hx := X.1
  have hb := X.2.1
  unfold Dev_program_b44 at h
  refine lv_aload_n hx hb d_Dev_program_44 rfl (lv_at hl 2 rfl) ?_
  refine lv_iload_n hx hb d_Dev_program_45 rfl (lv_at hl 3 rfl) ?_
  refine lv_aload_n hx hb d_Dev_program_46 rfl (lv_at hl 0 rfl) ?_
  refine gF_dev_words X hP d_Dev_program_47 ?_
  refine lv_iload_n hx hb d_Dev_program_50 rfl (lv_at hl 1 rfl) ?_
  refine lv_bipush (v := 64) hx hb d_Dev_program_51 (by decide) ?_
  refine lv_imul hx hb d_Dev_program_53 ?_
  refine lv_bipush (v := 64) hx hb d_Dev_program_54 (by decide) ?_
  obtain ⟨g1, e1, h⟩ := bd_some h
  refine cpF_13_4 X hP hD hS hl.1.symm (X.2.2.2.2.2.2.1.use q3_206) e1 ⟨Nat.le_of_ble_eq_true rfl, Nat.le_of_ble_eq_true rfl⟩ d_Dev_program_56 (fun H locs hP hD hS => ?_)
  refine lv_aload_n hx hb d_Dev_program_59 rfl (lv_at hl 0 rfl) ?_
  refine gF_dev_written X hP d_Dev_program_60 ?_
  refine lv_iload_n hx hb d_Dev_program_63 rfl (lv_at hl 1 rfl) ?_
  refine lv_iconst (v := 1) hx hb d_Dev_program_64 (by decide) ?_
  obtain ⟨g2, e1, h⟩ := bd_some h
  refine sF_5 X hP hD hS e1 d_Dev_program_65 (fun H locs hP hD hS => ?_)
  cases h
  exact fx_vret X hP hD hS d_Dev_program_66
set_option maxHeartbeats 4000000 in
set_option maxRecDepth 100000 in
theorem m_Dev_program_13 {l : Launch} {D : va_G} {ad : Nat → Nat} {ca : Nat → ClassId} {FU : Nat} {x1 : Int32} {x3 : Int32} {g : St} {q : St} (h : Dev_program FU 13 x1 x3 g = some q) : CV l ⟨"FlashFiles$Device", "program", "(I[II)V"⟩ prog_4_method_6_code 4 1 D (tyF ca) (wF ad ca g) [.ref (ad 3), .int x1, .ref (ad 24), .int x3] (wF ad ca q) := by
  intro sz
  refine Met.fx (Qc := fun A => fxQv D (tyF ca) A (wF ad ca q)) (by decide) (Nat.le_of_ble_eq_true rfl) ?_
  intro p e s m below meth c A ls X hP hD hl
  have hl : lv_has ls 4 [(0, .ref (ad 3)), (1, .int x1), (2, .ref (ad 24)), (3, .int x3)] := hl
  have hS : va_S A s.heap s.heap [] := va_S.rf
  have hx := X.1
  have hb := X.2.1
  unfold Dev_program at h
  refine lv_iload_n hx hb d_Dev_program_0 rfl (lv_at hl 1 rfl) ?_
  refine lv_if_lt (tgt := 24) hx hb d_Dev_program_1 (by decide) (fun hc => ?_) (fun hc => ?_)
  · have h := if_t hc h
    cases h
    exact fx_vret X hP hD hS d_Dev_program_24
  · have h := if_f hc h
    refine lv_iload_n hx hb d_Dev_program_4 rfl (lv_at hl 1 rfl) ?_
    refine lv_sipush (v := 2117) hx hb d_Dev_program_5 (by decide) ?_
    refine lv_icmp_ge (tgt := 24) hx hb d_Dev_program_8 (by decide) (fun hc => ?_) (fun hc => ?_)
    · have h := if_t hc h
      cases h
      exact fx_vret X hP hD hS d_Dev_program_24
    · have h := if_f hc h
      refine lv_iload_n hx hb d_Dev_program_11 rfl (lv_at hl 3 rfl) ?_
      refine lv_if_lt (tgt := 24) hx hb d_Dev_program_12 (by decide) (fun hc => ?_) (fun hc => ?_)
      · have h := if_t hc h
        cases h
        exact fx_vret X hP hD hS d_Dev_program_24
      · have h := if_f hc h
        refine lv_iload_n hx hb d_Dev_program_15 rfl (lv_at hl 3 rfl) ?_
        refine lv_aload_n hx hb d_Dev_program_16 rfl (lv_at hl 2 rfl) ?_
        refine va_alen (v := (nI (lenF 13))) hx hb X.2.2.2.2.2.2.2.1 hP 24 13 rfl rfl rfl d_Dev_program_17 ?_
        refine lv_bipush (v := 64) hx hb d_Dev_program_18 (by decide) ?_
        refine lv_isub hx hb d_Dev_program_20 ?_
        refine lv_icmp_le (tgt := 25) hx hb d_Dev_program_21 (by decide) (fun hc => ?_) (fun hc => ?_)
        · have h := if_t hc h
          refine lv_aload_n hx hb d_Dev_program_25 rfl (lv_at hl 0 rfl) ?_
          refine gF_dev_written X hP d_Dev_program_26 ?_
          refine lv_iload_n hx hb d_Dev_program_29 rfl (lv_at hl 1 rfl) ?_
          obtain ⟨v3, e1, h⟩ := bd_some h
          refine rF_5 X hP e1 d_Dev_program_30 ?_
          refine lv_if_eq (tgt := 44) hx hb d_Dev_program_31 (by decide) (fun hc => ?_) (fun hc => ?_)
          · have h := if_t hc h
            exact v_Dev_program_44_13 X  hP hD hS (lv_sub hl [0, 1, 2, 3] rfl) h
          · have h := if_f hc h
            refine lv_aload_n hx hb d_Dev_program_34 rfl (lv_at hl 0 rfl) ?_
            refine lv_dup hx hb d_Dev_program_35 rfl ?_
            refine gF_dev_spoiled X hP d_Dev_program_36 ?_
            refine lv_iconst (v := 1) hx hb d_Dev_program_39 (by decide) ?_
            refine lv_iadd hx hb d_Dev_program_40 ?_
            obtain ⟨g4, e1, h⟩ := nx_some h
            refine uF_dev_spoiled X hP hD hS e1 d_Dev_program_41 (fun H locs hP hD hS => ?_)
            exact v_Dev_program_44_13 X  hP hD hS (lv_sub hl [0, 1, 2, 3] rfl) h
        · have h := if_f hc h
          cases h
          exact fx_vret X hP hD hS d_Dev_program_24
set_option maxHeartbeats 4000000 in
set_option maxRecDepth 100000 in
theorem m_Dev_load_15 {l : Launch} {D : va_G} {ad : Nat → Nat} {ca : Nat → ClassId} {FU : Nat} {x1 : Int32} {g : St} {q : St} (h : Dev_load FU 15 x1 g = some q) : CV l ⟨"FlashFiles$Device", "load", "(I[I)V"⟩ prog_4_method_5_code 3 1 D (tyF ca) (wF ad ca g) [.ref (ad 3), .int x1, .ref (ad 26)] (wF ad ca q) := by
  intro sz
  refine Met.fx (Qc := fun A => fxQv D (tyF ca) A (wF ad ca q)) (by decide) (Nat.le_of_ble_eq_true rfl) ?_
  intro p e s m below meth c A ls X hP hD hl
  have hl : lv_has ls 3 [(0, .ref (ad 3)), (1, .int x1), (2, .ref (ad 26))] := hl
  have hS : va_S A s.heap s.heap [] := va_S.rf
  have hx := X.1
  have hb := X.2.1
  unfold Dev_load at h
  refine lv_iload_n hx hb d_Dev_load_0 rfl (lv_at hl 1 rfl) ?_
  refine lv_if_lt (tgt := 26) hx hb d_Dev_load_1 (by decide) (fun hc => ?_) (fun hc => ?_)
  · have h := if_t hc h
    cases h
    exact fx_vret X hP hD hS d_Dev_load_26
  · have h := if_f hc h
    refine lv_iload_n hx hb d_Dev_load_4 rfl (lv_at hl 1 rfl) ?_
    refine lv_sipush (v := 2117) hx hb d_Dev_load_5 (by decide) ?_
    refine lv_icmp_ge (tgt := 26) hx hb d_Dev_load_8 (by decide) (fun hc => ?_) (fun hc => ?_)
    · have h := if_t hc h
      cases h
      exact fx_vret X hP hD hS d_Dev_load_26
    · have h := if_f hc h
      refine lv_aload_n hx hb d_Dev_load_11 rfl (lv_at hl 0 rfl) ?_
      refine gF_dev_words X hP d_Dev_load_12 ?_
      refine lv_iload_n hx hb d_Dev_load_15 rfl (lv_at hl 1 rfl) ?_
      refine lv_bipush (v := 64) hx hb d_Dev_load_16 (by decide) ?_
      refine lv_imul hx hb d_Dev_load_18 ?_
      refine lv_aload_n hx hb d_Dev_load_19 rfl (lv_at hl 2 rfl) ?_
      refine lv_iconst (v := 0) hx hb d_Dev_load_20 (by decide) ?_
      refine lv_bipush (v := 64) hx hb d_Dev_load_21 (by decide) ?_
      obtain ⟨g1, e1, h⟩ := bd_some h
      refine cpF_4_15 X hP hD hS hl.1.symm (X.2.2.2.2.2.2.1.use q3_206) e1 ⟨Nat.le_of_ble_eq_true rfl, Nat.le_of_ble_eq_true rfl⟩ d_Dev_load_23 (fun H locs hP hD hS => ?_)
      cases h
      exact fx_vret X hP hD hS d_Dev_load_26
set_option maxHeartbeats 4000000 in
set_option maxRecDepth 100000 in
theorem v_Dev_program_44_17 {p : Program} {l : Launch} {e : Env} {s : State} {m : MethodId} {args : Array Value} {below : List Frame} {meth : Method} {c : Code} {D : va_G} {ad : Nat → Nat} {ca : Nat → ClassId} {A : Nat → Prop} {FU : Nat} {q : St} (X : FX p s m meth c prog_4_method_6_code 4 none "FlashFiles$Device" D (tyF ca) A) {y1 : Int32} {y3 : Int32} {g : St} {H : Heap} {locs : List Loc} {ls : Array Slot} (hP : va_P D cls (wF ad ca g) H) (hD : va_D A (wF ad ca g)) (hS : va_S A s.heap H locs) (hl : lv_has ls 4 [(0, .ref (ad 3)), (1, .int y1), (2, .ref (ad 28)), (3, .int y3)]) (h : Dev_program_b44 FU 17 y1 y3 g = some q) : W p l e (rmN 1) s m args below meth c H locs 0 0 (MQ below (fxQv D (tyF ca) A (wF ad ca q)) args s 0 0 A) (F0 m 44 ls []) := by
  have hx := X.1
  have hb := X.2.1
  unfold Dev_program_b44 at h
  refine lv_aload_n hx hb d_Dev_program_44 rfl (lv_at hl 2 rfl) ?_
  refine lv_iload_n hx hb d_Dev_program_45 rfl (lv_at hl 3 rfl) ?_
  refine lv_aload_n hx hb d_Dev_program_46 rfl (lv_at hl 0 rfl) ?_
  refine gF_dev_words X hP d_Dev_program_47 ?_
  refine lv_iload_n hx hb d_Dev_program_50 rfl (lv_at hl 1 rfl) ?_
  refine lv_bipush (v := 64) hx hb d_Dev_program_51 (by decide) ?_
  refine lv_imul hx hb d_Dev_program_53 ?_
  refine lv_bipush (v := 64) hx hb d_Dev_program_54 (by decide) ?_
  obtain ⟨g1, e1, h⟩ := bd_some h
  refine cpF_17_4 X hP hD hS hl.1.symm (X.2.2.2.2.2.2.1.use q3_206) e1 ⟨Nat.le_of_ble_eq_true rfl, Nat.le_of_ble_eq_true rfl⟩ d_Dev_program_56 (fun H locs hP hD hS => ?_)
  refine lv_aload_n hx hb d_Dev_program_59 rfl (lv_at hl 0 rfl) ?_
  refine gF_dev_written X hP d_Dev_program_60 ?_
  refine lv_iload_n hx hb d_Dev_program_63 rfl (lv_at hl 1 rfl) ?_
  refine lv_iconst (v := 1) hx hb d_Dev_program_64 (by decide) ?_
  obtain ⟨g2, e1, h⟩ := bd_some h
  refine sF_5 X hP hD hS e1 d_Dev_program_65 (fun H locs hP hD hS => ?_)
  cases h
  exact fx_vret X hP hD hS d_Dev_program_66
set_option maxHeartbeats 4000000 in
set_option maxRecDepth 100000 in
theorem m_Dev_program_17 {l : Launch} {D : va_G} {ad : Nat → Nat} {ca : Nat → ClassId} {FU : Nat} {x1 : Int32} {x3 : Int32} {g : St} {q : St} (h : Dev_program FU 17 x1 x3 g = some q) : CV l ⟨"FlashFiles$Device", "program", "(I[II)V"⟩ prog_4_method_6_code 4 1 D (tyF ca) (wF ad ca g) [.ref (ad 3), .int x1, .ref (ad 28), .int x3] (wF ad ca q) := by
  intro sz
  refine Met.fx (Qc := fun A => fxQv D (tyF ca) A (wF ad ca q)) (by decide) (Nat.le_of_ble_eq_true rfl) ?_
  intro p e s m below meth c A ls X hP hD hl
  have hl : lv_has ls 4 [(0, .ref (ad 3)), (1, .int x1), (2, .ref (ad 28)), (3, .int x3)] := hl
  have hS : va_S A s.heap s.heap [] := va_S.rf
  have hx := X.1
  have hb := X.2.1
  unfold Dev_program at h
  refine lv_iload_n hx hb d_Dev_program_0 rfl (lv_at hl 1 rfl) ?_
  refine lv_if_lt (tgt := 24) hx hb d_Dev_program_1 (by decide) (fun hc => ?_) (fun hc => ?_)
  · have h := if_t hc h
    cases h
    exact fx_vret X hP hD hS d_Dev_program_24
  · have h := if_f hc h
    refine lv_iload_n hx hb d_Dev_program_4 rfl (lv_at hl 1 rfl) ?_
    refine lv_sipush (v := 2117) hx hb d_Dev_program_5 (by decide) ?_
    refine lv_icmp_ge (tgt := 24) hx hb d_Dev_program_8 (by decide) (fun hc => ?_) (fun hc => ?_)
    · have h := if_t hc h
      cases h
      exact fx_vret X hP hD hS d_Dev_program_24
    · have h := if_f hc h
      refine lv_iload_n hx hb d_Dev_program_11 rfl (lv_at hl 3 rfl) ?_
      refine lv_if_lt (tgt := 24) hx hb d_Dev_program_12 (by decide) (fun hc => ?_) (fun hc => ?_)
      · have h := if_t hc h
        cases h
        exact fx_vret X hP hD hS d_Dev_program_24
      · have h := if_f hc h
        refine lv_iload_n hx hb d_Dev_program_15 rfl (lv_at hl 3 rfl) ?_
        refine lv_aload_n hx hb d_Dev_program_16 rfl (lv_at hl 2 rfl) ?_
        refine va_alen (v := (nI (lenF 17))) hx hb X.2.2.2.2.2.2.2.1 hP 28 17 rfl rfl rfl d_Dev_program_17 ?_
        refine lv_bipush (v := 64) hx hb d_Dev_program_18 (by decide) ?_
        refine lv_isub hx hb d_Dev_program_20 ?_
        refine lv_icmp_le (tgt := 25) hx hb d_Dev_program_21 (by decide) (fun hc => ?_) (fun hc => ?_)
        · have h := if_t hc h
          refine lv_aload_n hx hb d_Dev_program_25 rfl (lv_at hl 0 rfl) ?_
          refine gF_dev_written X hP d_Dev_program_26 ?_
          refine lv_iload_n hx hb d_Dev_program_29 rfl (lv_at hl 1 rfl) ?_
          obtain ⟨v3, e1, h⟩ := bd_some h
          refine rF_5 X hP e1 d_Dev_program_30 ?_
          refine lv_if_eq (tgt := 44) hx hb d_Dev_program_31 (by decide) (fun hc => ?_) (fun hc => ?_)
          · have h := if_t hc h
            exact v_Dev_program_44_17 X  hP hD hS (lv_sub hl [0, 1, 2, 3] rfl) h
          · have h := if_f hc h
            refine lv_aload_n hx hb d_Dev_program_34 rfl (lv_at hl 0 rfl) ?_
            refine lv_dup hx hb d_Dev_program_35 rfl ?_
            refine gF_dev_spoiled X hP d_Dev_program_36 ?_
            refine lv_iconst (v := 1) hx hb d_Dev_program_39 (by decide) ?_
            refine lv_iadd hx hb d_Dev_program_40 ?_
            obtain ⟨g4, e1, h⟩ := nx_some h
            refine uF_dev_spoiled X hP hD hS e1 d_Dev_program_41 (fun H locs hP hD hS => ?_)
            exact v_Dev_program_44_17 X  hP hD hS (lv_sub hl [0, 1, 2, 3] rfl) h
        · have h := if_f hc h
          cases h
          exact fx_vret X hP hD hS d_Dev_program_24
set_option maxHeartbeats 4000000 in
set_option maxRecDepth 100000 in
theorem m_Dev_load_17 {l : Launch} {D : va_G} {ad : Nat → Nat} {ca : Nat → ClassId} {FU : Nat} {x1 : Int32} {g : St} {q : St} (h : Dev_load FU 17 x1 g = some q) : CV l ⟨"FlashFiles$Device", "load", "(I[I)V"⟩ prog_4_method_5_code 3 1 D (tyF ca) (wF ad ca g) [.ref (ad 3), .int x1, .ref (ad 28)] (wF ad ca q) := by
  intro sz
  refine Met.fx (Qc := fun A => fxQv D (tyF ca) A (wF ad ca q)) (by decide) (Nat.le_of_ble_eq_true rfl) ?_
  intro p e s m below meth c A ls X hP hD hl
  have hl : lv_has ls 3 [(0, .ref (ad 3)), (1, .int x1), (2, .ref (ad 28))] := hl
  have hS : va_S A s.heap s.heap [] := va_S.rf
  have hx := X.1
  have hb := X.2.1
  unfold Dev_load at h
  refine lv_iload_n hx hb d_Dev_load_0 rfl (lv_at hl 1 rfl) ?_
  refine lv_if_lt (tgt := 26) hx hb d_Dev_load_1 (by decide) (fun hc => ?_) (fun hc => ?_)
  · have h := if_t hc h
    cases h
    exact fx_vret X hP hD hS d_Dev_load_26
  · have h := if_f hc h
    refine lv_iload_n hx hb d_Dev_load_4 rfl (lv_at hl 1 rfl) ?_
    refine lv_sipush (v := 2117) hx hb d_Dev_load_5 (by decide) ?_
    refine lv_icmp_ge (tgt := 26) hx hb d_Dev_load_8 (by decide) (fun hc => ?_) (fun hc => ?_)
    · have h := if_t hc h
      cases h
      exact fx_vret X hP hD hS d_Dev_load_26
    · have h := if_f hc h
      refine lv_aload_n hx hb d_Dev_load_11 rfl (lv_at hl 0 rfl) ?_
      refine gF_dev_words X hP d_Dev_load_12 ?_
      refine lv_iload_n hx hb d_Dev_load_15 rfl (lv_at hl 1 rfl) ?_
      refine lv_bipush (v := 64) hx hb d_Dev_load_16 (by decide) ?_
      refine lv_imul hx hb d_Dev_load_18 ?_
      refine lv_aload_n hx hb d_Dev_load_19 rfl (lv_at hl 2 rfl) ?_
      refine lv_iconst (v := 0) hx hb d_Dev_load_20 (by decide) ?_
      refine lv_bipush (v := 64) hx hb d_Dev_load_21 (by decide) ?_
      obtain ⟨g1, e1, h⟩ := bd_some h
      refine cpF_4_17 X hP hD hS hl.1.symm (X.2.2.2.2.2.2.1.use q3_206) e1 ⟨Nat.le_of_ble_eq_true rfl, Nat.le_of_ble_eq_true rfl⟩ d_Dev_load_23 (fun H locs hP hD hS => ?_)
      cases h
      exact fx_vret X hP hD hS d_Dev_load_26
set_option maxHeartbeats 4000000 in
set_option maxRecDepth 100000 in
theorem m_Dev_load_20 {l : Launch} {D : va_G} {ad : Nat → Nat} {ca : Nat → ClassId} {FU : Nat} {x1 : Int32} {g : St} {q : St} (h : Dev_load FU 20 x1 g = some q) : CV l ⟨"FlashFiles$Device", "load", "(I[I)V"⟩ prog_4_method_5_code 3 1 D (tyF ca) (wF ad ca g) [.ref (ad 3), .int x1, .ref (ad 31)] (wF ad ca q) := by
  intro sz
  refine Met.fx (Qc := fun A => fxQv D (tyF ca) A (wF ad ca q)) (by decide) (Nat.le_of_ble_eq_true rfl) ?_
  intro p e s m below meth c A ls X hP hD hl
  have hl : lv_has ls 3 [(0, .ref (ad 3)), (1, .int x1), (2, .ref (ad 31))] := hl
  have hS : va_S A s.heap s.heap [] := va_S.rf
  have hx := X.1
  have hb := X.2.1
  unfold Dev_load at h
  refine lv_iload_n hx hb d_Dev_load_0 rfl (lv_at hl 1 rfl) ?_
  refine lv_if_lt (tgt := 26) hx hb d_Dev_load_1 (by decide) (fun hc => ?_) (fun hc => ?_)
  · have h := if_t hc h
    cases h
    exact fx_vret X hP hD hS d_Dev_load_26
  · have h := if_f hc h
    refine lv_iload_n hx hb d_Dev_load_4 rfl (lv_at hl 1 rfl) ?_
    refine lv_sipush (v := 2117) hx hb d_Dev_load_5 (by decide) ?_
    refine lv_icmp_ge (tgt := 26) hx hb d_Dev_load_8 (by decide) (fun hc => ?_) (fun hc => ?_)
    · have h := if_t hc h
      cases h
      exact fx_vret X hP hD hS d_Dev_load_26
    · have h := if_f hc h
      refine lv_aload_n hx hb d_Dev_load_11 rfl (lv_at hl 0 rfl) ?_
      refine gF_dev_words X hP d_Dev_load_12 ?_
      refine lv_iload_n hx hb d_Dev_load_15 rfl (lv_at hl 1 rfl) ?_
      refine lv_bipush (v := 64) hx hb d_Dev_load_16 (by decide) ?_
      refine lv_imul hx hb d_Dev_load_18 ?_
      refine lv_aload_n hx hb d_Dev_load_19 rfl (lv_at hl 2 rfl) ?_
      refine lv_iconst (v := 0) hx hb d_Dev_load_20 (by decide) ?_
      refine lv_bipush (v := 64) hx hb d_Dev_load_21 (by decide) ?_
      obtain ⟨g1, e1, h⟩ := bd_some h
      refine cpF_4_20 X hP hD hS hl.1.symm (X.2.2.2.2.2.2.1.use q3_206) e1 ⟨Nat.le_of_ble_eq_true rfl, Nat.le_of_ble_eq_true rfl⟩ d_Dev_load_23 (fun H locs hP hD hS => ?_)
      cases h
      exact fx_vret X hP hD hS d_Dev_load_26
set_option maxHeartbeats 4000000 in
set_option maxRecDepth 100000 in
theorem m_Dev_load_21 {l : Launch} {D : va_G} {ad : Nat → Nat} {ca : Nat → ClassId} {FU : Nat} {x1 : Int32} {g : St} {q : St} (h : Dev_load FU 21 x1 g = some q) : CV l ⟨"FlashFiles$Device", "load", "(I[I)V"⟩ prog_4_method_5_code 3 1 D (tyF ca) (wF ad ca g) [.ref (ad 3), .int x1, .ref (ad 32)] (wF ad ca q) := by
  intro sz
  refine Met.fx (Qc := fun A => fxQv D (tyF ca) A (wF ad ca q)) (by decide) (Nat.le_of_ble_eq_true rfl) ?_
  intro p e s m below meth c A ls X hP hD hl
  have hl : lv_has ls 3 [(0, .ref (ad 3)), (1, .int x1), (2, .ref (ad 32))] := hl
  have hS : va_S A s.heap s.heap [] := va_S.rf
  have hx := X.1
  have hb := X.2.1
  unfold Dev_load at h
  refine lv_iload_n hx hb d_Dev_load_0 rfl (lv_at hl 1 rfl) ?_
  refine lv_if_lt (tgt := 26) hx hb d_Dev_load_1 (by decide) (fun hc => ?_) (fun hc => ?_)
  · have h := if_t hc h
    cases h
    exact fx_vret X hP hD hS d_Dev_load_26
  · have h := if_f hc h
    refine lv_iload_n hx hb d_Dev_load_4 rfl (lv_at hl 1 rfl) ?_
    refine lv_sipush (v := 2117) hx hb d_Dev_load_5 (by decide) ?_
    refine lv_icmp_ge (tgt := 26) hx hb d_Dev_load_8 (by decide) (fun hc => ?_) (fun hc => ?_)
    · have h := if_t hc h
      cases h
      exact fx_vret X hP hD hS d_Dev_load_26
    · have h := if_f hc h
      refine lv_aload_n hx hb d_Dev_load_11 rfl (lv_at hl 0 rfl) ?_
      refine gF_dev_words X hP d_Dev_load_12 ?_
      refine lv_iload_n hx hb d_Dev_load_15 rfl (lv_at hl 1 rfl) ?_
      refine lv_bipush (v := 64) hx hb d_Dev_load_16 (by decide) ?_
      refine lv_imul hx hb d_Dev_load_18 ?_
      refine lv_aload_n hx hb d_Dev_load_19 rfl (lv_at hl 2 rfl) ?_
      refine lv_iconst (v := 0) hx hb d_Dev_load_20 (by decide) ?_
      refine lv_bipush (v := 64) hx hb d_Dev_load_21 (by decide) ?_
      obtain ⟨g1, e1, h⟩ := bd_some h
      refine cpF_4_21 X hP hD hS hl.1.symm (X.2.2.2.2.2.2.1.use q3_206) e1 ⟨Nat.le_of_ble_eq_true rfl, Nat.le_of_ble_eq_true rfl⟩ d_Dev_load_23 (fun H locs hP hD hS => ?_)
      cases h
      exact fx_vret X hP hD hS d_Dev_load_26
set_option maxHeartbeats 4000000 in
set_option maxRecDepth 100000 in
theorem v_Dev_program_44_21 {p : Program} {l : Launch} {e : Env} {s : State} {m : MethodId} {args : Array Value} {below : List Frame} {meth : Method} {c : Code} {D : va_G} {ad : Nat → Nat} {ca : Nat → ClassId} {A : Nat → Prop} {FU : Nat} {q : St} (X : FX p s m meth c prog_4_method_6_code 4 none "FlashFiles$Device" D (tyF ca) A) {y1 : Int32} {y3 : Int32} {g : St} {H : Heap} {locs : List Loc} {ls : Array Slot} (hP : va_P D cls (wF ad ca g) H) (hD : va_D A (wF ad ca g)) (hS : va_S A s.heap H locs) (hl : lv_has ls 4 [(0, .ref (ad 3)), (1, .int y1), (2, .ref (ad 32)), (3, .int y3)]) (h : Dev_program_b44 FU 21 y1 y3 g = some q) : W p l e (rmN 1) s m args below meth c H locs 0 0 (MQ below (fxQv D (tyF ca) A (wF ad ca q)) args s 0 0 A) (F0 m 44 ls []) := by
  have hx := X.1
  have hb := X.2.1
  unfold Dev_program_b44 at h
  refine lv_aload_n hx hb d_Dev_program_44 rfl (lv_at hl 2 rfl) ?_
  refine lv_iload_n hx hb d_Dev_program_45 rfl (lv_at hl 3 rfl) ?_
  refine lv_aload_n hx hb d_Dev_program_46 rfl (lv_at hl 0 rfl) ?_
  refine gF_dev_words X hP d_Dev_program_47 ?_
  refine lv_iload_n hx hb d_Dev_program_50 rfl (lv_at hl 1 rfl) ?_
  refine lv_bipush (v := 64) hx hb d_Dev_program_51 (by decide) ?_
  refine lv_imul hx hb d_Dev_program_53 ?_
  refine lv_bipush (v := 64) hx hb d_Dev_program_54 (by decide) ?_
  obtain ⟨g1, e1, h⟩ := bd_some h
  refine cpF_21_4 X hP hD hS hl.1.symm (X.2.2.2.2.2.2.1.use q3_206) e1 ⟨Nat.le_of_ble_eq_true rfl, Nat.le_of_ble_eq_true rfl⟩ d_Dev_program_56 (fun H locs hP hD hS => ?_)
  refine lv_aload_n hx hb d_Dev_program_59 rfl (lv_at hl 0 rfl) ?_
  refine gF_dev_written X hP d_Dev_program_60 ?_
  refine lv_iload_n hx hb d_Dev_program_63 rfl (lv_at hl 1 rfl) ?_
  refine lv_iconst (v := 1) hx hb d_Dev_program_64 (by decide) ?_
  obtain ⟨g2, e1, h⟩ := bd_some h
  refine sF_5 X hP hD hS e1 d_Dev_program_65 (fun H locs hP hD hS => ?_)
  cases h
  exact fx_vret X hP hD hS d_Dev_program_66
set_option maxHeartbeats 4000000 in
set_option maxRecDepth 100000 in
theorem m_Dev_program_21 {l : Launch} {D : va_G} {ad : Nat → Nat} {ca : Nat → ClassId} {FU : Nat} {x1 : Int32} {x3 : Int32} {g : St} {q : St} (h : Dev_program FU 21 x1 x3 g = some q) : CV l ⟨"FlashFiles$Device", "program", "(I[II)V"⟩ prog_4_method_6_code 4 1 D (tyF ca) (wF ad ca g) [.ref (ad 3), .int x1, .ref (ad 32), .int x3] (wF ad ca q) := by
  intro sz
  refine Met.fx (Qc := fun A => fxQv D (tyF ca) A (wF ad ca q)) (by decide) (Nat.le_of_ble_eq_true rfl) ?_
  intro p e s m below meth c A ls X hP hD hl
  have hl : lv_has ls 4 [(0, .ref (ad 3)), (1, .int x1), (2, .ref (ad 32)), (3, .int x3)] := hl
  have hS : va_S A s.heap s.heap [] := va_S.rf
  have hx := X.1
  have hb := X.2.1
  unfold Dev_program at h
  refine lv_iload_n hx hb d_Dev_program_0 rfl (lv_at hl 1 rfl) ?_
  refine lv_if_lt (tgt := 24) hx hb d_Dev_program_1 (by decide) (fun hc => ?_) (fun hc => ?_)
  · have h := if_t hc h
    cases h
    exact fx_vret X hP hD hS d_Dev_program_24
  · have h := if_f hc h
    refine lv_iload_n hx hb d_Dev_program_4 rfl (lv_at hl 1 rfl) ?_
    refine lv_sipush (v := 2117) hx hb d_Dev_program_5 (by decide) ?_
    refine lv_icmp_ge (tgt := 24) hx hb d_Dev_program_8 (by decide) (fun hc => ?_) (fun hc => ?_)
    · have h := if_t hc h
      cases h
      exact fx_vret X hP hD hS d_Dev_program_24
    · have h := if_f hc h
      refine lv_iload_n hx hb d_Dev_program_11 rfl (lv_at hl 3 rfl) ?_
      refine lv_if_lt (tgt := 24) hx hb d_Dev_program_12 (by decide) (fun hc => ?_) (fun hc => ?_)
      · have h := if_t hc h
        cases h
        exact fx_vret X hP hD hS d_Dev_program_24
      · have h := if_f hc h
        refine lv_iload_n hx hb d_Dev_program_15 rfl (lv_at hl 3 rfl) ?_
        refine lv_aload_n hx hb d_Dev_program_16 rfl (lv_at hl 2 rfl) ?_
        refine va_alen (v := (nI (lenF 21))) hx hb X.2.2.2.2.2.2.2.1 hP 32 21 rfl rfl rfl d_Dev_program_17 ?_
        refine lv_bipush (v := 64) hx hb d_Dev_program_18 (by decide) ?_
        refine lv_isub hx hb d_Dev_program_20 ?_
        refine lv_icmp_le (tgt := 25) hx hb d_Dev_program_21 (by decide) (fun hc => ?_) (fun hc => ?_)
        · have h := if_t hc h
          refine lv_aload_n hx hb d_Dev_program_25 rfl (lv_at hl 0 rfl) ?_
          refine gF_dev_written X hP d_Dev_program_26 ?_
          refine lv_iload_n hx hb d_Dev_program_29 rfl (lv_at hl 1 rfl) ?_
          obtain ⟨v3, e1, h⟩ := bd_some h
          refine rF_5 X hP e1 d_Dev_program_30 ?_
          refine lv_if_eq (tgt := 44) hx hb d_Dev_program_31 (by decide) (fun hc => ?_) (fun hc => ?_)
          · have h := if_t hc h
            exact v_Dev_program_44_21 X  hP hD hS (lv_sub hl [0, 1, 2, 3] rfl) h
          · have h := if_f hc h
            refine lv_aload_n hx hb d_Dev_program_34 rfl (lv_at hl 0 rfl) ?_
            refine lv_dup hx hb d_Dev_program_35 rfl ?_
            refine gF_dev_spoiled X hP d_Dev_program_36 ?_
            refine lv_iconst (v := 1) hx hb d_Dev_program_39 (by decide) ?_
            refine lv_iadd hx hb d_Dev_program_40 ?_
            obtain ⟨g4, e1, h⟩ := nx_some h
            refine uF_dev_spoiled X hP hD hS e1 d_Dev_program_41 (fun H locs hP hD hS => ?_)
            exact v_Dev_program_44_21 X  hP hD hS (lv_sub hl [0, 1, 2, 3] rfl) h
        · have h := if_f hc h
          cases h
          exact fx_vret X hP hD hS d_Dev_program_24
set_option maxHeartbeats 4000000 in
set_option maxRecDepth 100000 in
theorem v_Dev_program_44_20 {p : Program} {l : Launch} {e : Env} {s : State} {m : MethodId} {args : Array Value} {below : List Frame} {meth : Method} {c : Code} {D : va_G} {ad : Nat → Nat} {ca : Nat → ClassId} {A : Nat → Prop} {FU : Nat} {q : St} (X : FX p s m meth c prog_4_method_6_code 4 none "FlashFiles$Device" D (tyF ca) A) {y1 : Int32} {y3 : Int32} {g : St} {H : Heap} {locs : List Loc} {ls : Array Slot} (hP : va_P D cls (wF ad ca g) H) (hD : va_D A (wF ad ca g)) (hS : va_S A s.heap H locs) (hl : lv_has ls 4 [(0, .ref (ad 3)), (1, .int y1), (2, .ref (ad 31)), (3, .int y3)]) (h : Dev_program_b44 FU 20 y1 y3 g = some q) : W p l e (rmN 1) s m args below meth c H locs 0 0 (MQ below (fxQv D (tyF ca) A (wF ad ca q)) args s 0 0 A) (F0 m 44 ls []) := by
  have hx := X.1
  have hb := X.2.1
  unfold Dev_program_b44 at h
  refine lv_aload_n hx hb d_Dev_program_44 rfl (lv_at hl 2 rfl) ?_
  refine lv_iload_n hx hb d_Dev_program_45 rfl (lv_at hl 3 rfl) ?_
  refine lv_aload_n hx hb d_Dev_program_46 rfl (lv_at hl 0 rfl) ?_
  refine gF_dev_words X hP d_Dev_program_47 ?_
  refine lv_iload_n hx hb d_Dev_program_50 rfl (lv_at hl 1 rfl) ?_
  refine lv_bipush (v := 64) hx hb d_Dev_program_51 (by decide) ?_
  refine lv_imul hx hb d_Dev_program_53 ?_
  refine lv_bipush (v := 64) hx hb d_Dev_program_54 (by decide) ?_
  obtain ⟨g1, e1, h⟩ := bd_some h
  refine cpF_20_4 X hP hD hS hl.1.symm (X.2.2.2.2.2.2.1.use q3_206) e1 ⟨Nat.le_of_ble_eq_true rfl, Nat.le_of_ble_eq_true rfl⟩ d_Dev_program_56 (fun H locs hP hD hS => ?_)
  refine lv_aload_n hx hb d_Dev_program_59 rfl (lv_at hl 0 rfl) ?_
  refine gF_dev_written X hP d_Dev_program_60 ?_
  refine lv_iload_n hx hb d_Dev_program_63 rfl (lv_at hl 1 rfl) ?_
  refine lv_iconst (v := 1) hx hb d_Dev_program_64 (by decide) ?_
  obtain ⟨g2, e1, h⟩ := bd_some h
  refine sF_5 X hP hD hS e1 d_Dev_program_65 (fun H locs hP hD hS => ?_)
  cases h
  exact fx_vret X hP hD hS d_Dev_program_66
set_option maxHeartbeats 4000000 in
set_option maxRecDepth 100000 in
theorem m_Dev_program_20 {l : Launch} {D : va_G} {ad : Nat → Nat} {ca : Nat → ClassId} {FU : Nat} {x1 : Int32} {x3 : Int32} {g : St} {q : St} (h : Dev_program FU 20 x1 x3 g = some q) : CV l ⟨"FlashFiles$Device", "program", "(I[II)V"⟩ prog_4_method_6_code 4 1 D (tyF ca) (wF ad ca g) [.ref (ad 3), .int x1, .ref (ad 31), .int x3] (wF ad ca q) := by
  intro sz
  refine Met.fx (Qc := fun A => fxQv D (tyF ca) A (wF ad ca q)) (by decide) (Nat.le_of_ble_eq_true rfl) ?_
  intro p e s m below meth c A ls X hP hD hl
  have hl : lv_has ls 4 [(0, .ref (ad 3)), (1, .int x1), (2, .ref (ad 31)), (3, .int x3)] := hl
  have hS : va_S A s.heap s.heap [] := va_S.rf
  have hx := X.1
  have hb := X.2.1
  unfold Dev_program at h
  refine lv_iload_n hx hb d_Dev_program_0 rfl (lv_at hl 1 rfl) ?_
  refine lv_if_lt (tgt := 24) hx hb d_Dev_program_1 (by decide) (fun hc => ?_) (fun hc => ?_)
  · have h := if_t hc h
    cases h
    exact fx_vret X hP hD hS d_Dev_program_24
  · have h := if_f hc h
    refine lv_iload_n hx hb d_Dev_program_4 rfl (lv_at hl 1 rfl) ?_
    refine lv_sipush (v := 2117) hx hb d_Dev_program_5 (by decide) ?_
    refine lv_icmp_ge (tgt := 24) hx hb d_Dev_program_8 (by decide) (fun hc => ?_) (fun hc => ?_)
    · have h := if_t hc h
      cases h
      exact fx_vret X hP hD hS d_Dev_program_24
    · have h := if_f hc h
      refine lv_iload_n hx hb d_Dev_program_11 rfl (lv_at hl 3 rfl) ?_
      refine lv_if_lt (tgt := 24) hx hb d_Dev_program_12 (by decide) (fun hc => ?_) (fun hc => ?_)
      · have h := if_t hc h
        cases h
        exact fx_vret X hP hD hS d_Dev_program_24
      · have h := if_f hc h
        refine lv_iload_n hx hb d_Dev_program_15 rfl (lv_at hl 3 rfl) ?_
        refine lv_aload_n hx hb d_Dev_program_16 rfl (lv_at hl 2 rfl) ?_
        refine va_alen (v := (nI (lenF 20))) hx hb X.2.2.2.2.2.2.2.1 hP 31 20 rfl rfl rfl d_Dev_program_17 ?_
        refine lv_bipush (v := 64) hx hb d_Dev_program_18 (by decide) ?_
        refine lv_isub hx hb d_Dev_program_20 ?_
        refine lv_icmp_le (tgt := 25) hx hb d_Dev_program_21 (by decide) (fun hc => ?_) (fun hc => ?_)
        · have h := if_t hc h
          refine lv_aload_n hx hb d_Dev_program_25 rfl (lv_at hl 0 rfl) ?_
          refine gF_dev_written X hP d_Dev_program_26 ?_
          refine lv_iload_n hx hb d_Dev_program_29 rfl (lv_at hl 1 rfl) ?_
          obtain ⟨v3, e1, h⟩ := bd_some h
          refine rF_5 X hP e1 d_Dev_program_30 ?_
          refine lv_if_eq (tgt := 44) hx hb d_Dev_program_31 (by decide) (fun hc => ?_) (fun hc => ?_)
          · have h := if_t hc h
            exact v_Dev_program_44_20 X  hP hD hS (lv_sub hl [0, 1, 2, 3] rfl) h
          · have h := if_f hc h
            refine lv_aload_n hx hb d_Dev_program_34 rfl (lv_at hl 0 rfl) ?_
            refine lv_dup hx hb d_Dev_program_35 rfl ?_
            refine gF_dev_spoiled X hP d_Dev_program_36 ?_
            refine lv_iconst (v := 1) hx hb d_Dev_program_39 (by decide) ?_
            refine lv_iadd hx hb d_Dev_program_40 ?_
            obtain ⟨g4, e1, h⟩ := nx_some h
            refine uF_dev_spoiled X hP hD hS e1 d_Dev_program_41 (fun H locs hP hD hS => ?_)
            exact v_Dev_program_44_20 X  hP hD hS (lv_sub hl [0, 1, 2, 3] rfl) h
        · have h := if_f hc h
          cases h
          exact fx_vret X hP hD hS d_Dev_program_24
set_option maxHeartbeats 4000000 in
set_option maxRecDepth 100000 in
theorem v_Dev_program_44_22 {p : Program} {l : Launch} {e : Env} {s : State} {m : MethodId} {args : Array Value} {below : List Frame} {meth : Method} {c : Code} {D : va_G} {ad : Nat → Nat} {ca : Nat → ClassId} {A : Nat → Prop} {FU : Nat} {q : St} (X : FX p s m meth c prog_4_method_6_code 4 none "FlashFiles$Device" D (tyF ca) A) {y1 : Int32} {y3 : Int32} {g : St} {H : Heap} {locs : List Loc} {ls : Array Slot} (hP : va_P D cls (wF ad ca g) H) (hD : va_D A (wF ad ca g)) (hS : va_S A s.heap H locs) (hl : lv_has ls 4 [(0, .ref (ad 3)), (1, .int y1), (2, .ref (ad 33)), (3, .int y3)]) (h : Dev_program_b44 FU 22 y1 y3 g = some q) : W p l e (rmN 1) s m args below meth c H locs 0 0 (MQ below (fxQv D (tyF ca) A (wF ad ca q)) args s 0 0 A) (F0 m 44 ls []) := by
  have hx := X.1
  have hb := X.2.1
  unfold Dev_program_b44 at h
  refine lv_aload_n hx hb d_Dev_program_44 rfl (lv_at hl 2 rfl) ?_
  refine lv_iload_n hx hb d_Dev_program_45 rfl (lv_at hl 3 rfl) ?_
  refine lv_aload_n hx hb d_Dev_program_46 rfl (lv_at hl 0 rfl) ?_
  refine gF_dev_words X hP d_Dev_program_47 ?_
  refine lv_iload_n hx hb d_Dev_program_50 rfl (lv_at hl 1 rfl) ?_
  refine lv_bipush (v := 64) hx hb d_Dev_program_51 (by decide) ?_
  refine lv_imul hx hb d_Dev_program_53 ?_
  refine lv_bipush (v := 64) hx hb d_Dev_program_54 (by decide) ?_
  obtain ⟨g1, e1, h⟩ := bd_some h
  refine cpF_22_4 X hP hD hS hl.1.symm (X.2.2.2.2.2.2.1.use q3_206) e1 ⟨Nat.le_of_ble_eq_true rfl, Nat.le_of_ble_eq_true rfl⟩ d_Dev_program_56 (fun H locs hP hD hS => ?_)
  refine lv_aload_n hx hb d_Dev_program_59 rfl (lv_at hl 0 rfl) ?_
  refine gF_dev_written X hP d_Dev_program_60 ?_
  refine lv_iload_n hx hb d_Dev_program_63 rfl (lv_at hl 1 rfl) ?_
  refine lv_iconst (v := 1) hx hb d_Dev_program_64 (by decide) ?_
  obtain ⟨g2, e1, h⟩ := bd_some h
  refine sF_5 X hP hD hS e1 d_Dev_program_65 (fun H locs hP hD hS => ?_)
  cases h
  exact fx_vret X hP hD hS d_Dev_program_66
set_option maxHeartbeats 4000000 in
set_option maxRecDepth 100000 in
theorem m_Dev_program_22 {l : Launch} {D : va_G} {ad : Nat → Nat} {ca : Nat → ClassId} {FU : Nat} {x1 : Int32} {x3 : Int32} {g : St} {q : St} (h : Dev_program FU 22 x1 x3 g = some q) : CV l ⟨"FlashFiles$Device", "program", "(I[II)V"⟩ prog_4_method_6_code 4 1 D (tyF ca) (wF ad ca g) [.ref (ad 3), .int x1, .ref (ad 33), .int x3] (wF ad ca q) := by
  intro sz
  refine Met.fx (Qc := fun A => fxQv D (tyF ca) A (wF ad ca q)) (by decide) (Nat.le_of_ble_eq_true rfl) ?_
  intro p e s m below meth c A ls X hP hD hl
  have hl : lv_has ls 4 [(0, .ref (ad 3)), (1, .int x1), (2, .ref (ad 33)), (3, .int x3)] := hl
  have hS : va_S A s.heap s.heap [] := va_S.rf
  have hx := X.1
  have hb := X.2.1
  unfold Dev_program at h
  refine lv_iload_n hx hb d_Dev_program_0 rfl (lv_at hl 1 rfl) ?_
  refine lv_if_lt (tgt := 24) hx hb d_Dev_program_1 (by decide) (fun hc => ?_) (fun hc => ?_)
  · have h := if_t hc h
    cases h
    exact fx_vret X hP hD hS d_Dev_program_24
  · have h := if_f hc h
    refine lv_iload_n hx hb d_Dev_program_4 rfl (lv_at hl 1 rfl) ?_
    refine lv_sipush (v := 2117) hx hb d_Dev_program_5 (by decide) ?_
    refine lv_icmp_ge (tgt := 24) hx hb d_Dev_program_8 (by decide) (fun hc => ?_) (fun hc => ?_)
    · have h := if_t hc h
      cases h
      exact fx_vret X hP hD hS d_Dev_program_24
    · have h := if_f hc h
      refine lv_iload_n hx hb d_Dev_program_11 rfl (lv_at hl 3 rfl) ?_
      refine lv_if_lt (tgt := 24) hx hb d_Dev_program_12 (by decide) (fun hc => ?_) (fun hc => ?_)
      · have h := if_t hc h
        cases h
        exact fx_vret X hP hD hS d_Dev_program_24
      · have h := if_f hc h
        refine lv_iload_n hx hb d_Dev_program_15 rfl (lv_at hl 3 rfl) ?_
        refine lv_aload_n hx hb d_Dev_program_16 rfl (lv_at hl 2 rfl) ?_
        refine va_alen (v := (nI (lenF 22))) hx hb X.2.2.2.2.2.2.2.1 hP 33 22 rfl rfl rfl d_Dev_program_17 ?_
        refine lv_bipush (v := 64) hx hb d_Dev_program_18 (by decide) ?_
        refine lv_isub hx hb d_Dev_program_20 ?_
        refine lv_icmp_le (tgt := 25) hx hb d_Dev_program_21 (by decide) (fun hc => ?_) (fun hc => ?_)
        · have h := if_t hc h
          refine lv_aload_n hx hb d_Dev_program_25 rfl (lv_at hl 0 rfl) ?_
          refine gF_dev_written X hP d_Dev_program_26 ?_
          refine lv_iload_n hx hb d_Dev_program_29 rfl (lv_at hl 1 rfl) ?_
          obtain ⟨v3, e1, h⟩ := bd_some h
          refine rF_5 X hP e1 d_Dev_program_30 ?_
          refine lv_if_eq (tgt := 44) hx hb d_Dev_program_31 (by decide) (fun hc => ?_) (fun hc => ?_)
          · have h := if_t hc h
            exact v_Dev_program_44_22 X  hP hD hS (lv_sub hl [0, 1, 2, 3] rfl) h
          · have h := if_f hc h
            refine lv_aload_n hx hb d_Dev_program_34 rfl (lv_at hl 0 rfl) ?_
            refine lv_dup hx hb d_Dev_program_35 rfl ?_
            refine gF_dev_spoiled X hP d_Dev_program_36 ?_
            refine lv_iconst (v := 1) hx hb d_Dev_program_39 (by decide) ?_
            refine lv_iadd hx hb d_Dev_program_40 ?_
            obtain ⟨g4, e1, h⟩ := nx_some h
            refine uF_dev_spoiled X hP hD hS e1 d_Dev_program_41 (fun H locs hP hD hS => ?_)
            exact v_Dev_program_44_22 X  hP hD hS (lv_sub hl [0, 1, 2, 3] rfl) h
        · have h := if_f hc h
          cases h
          exact fx_vret X hP hD hS d_Dev_program_24
set_option maxHeartbeats 4000000 in
set_option maxRecDepth 100000 in
theorem m_Dev_load_26 {l : Launch} {D : va_G} {ad : Nat → Nat} {ca : Nat → ClassId} {FU : Nat} {x1 : Int32} {g : St} {q : St} (h : Dev_load FU 26 x1 g = some q) : CV l ⟨"FlashFiles$Device", "load", "(I[I)V"⟩ prog_4_method_5_code 3 1 D (tyF ca) (wF ad ca g) [.ref (ad 3), .int x1, .ref (ad 37)] (wF ad ca q) := by
  intro sz
  refine Met.fx (Qc := fun A => fxQv D (tyF ca) A (wF ad ca q)) (by decide) (Nat.le_of_ble_eq_true rfl) ?_
  intro p e s m below meth c A ls X hP hD hl
  have hl : lv_has ls 3 [(0, .ref (ad 3)), (1, .int x1), (2, .ref (ad 37))] := hl
  have hS : va_S A s.heap s.heap [] := va_S.rf
  have hx := X.1
  have hb := X.2.1
  unfold Dev_load at h
  refine lv_iload_n hx hb d_Dev_load_0 rfl (lv_at hl 1 rfl) ?_
  refine lv_if_lt (tgt := 26) hx hb d_Dev_load_1 (by decide) (fun hc => ?_) (fun hc => ?_)
  · have h := if_t hc h
    cases h
    exact fx_vret X hP hD hS d_Dev_load_26
  · have h := if_f hc h
    refine lv_iload_n hx hb d_Dev_load_4 rfl (lv_at hl 1 rfl) ?_
    refine lv_sipush (v := 2117) hx hb d_Dev_load_5 (by decide) ?_
    refine lv_icmp_ge (tgt := 26) hx hb d_Dev_load_8 (by decide) (fun hc => ?_) (fun hc => ?_)
    · have h := if_t hc h
      cases h
      exact fx_vret X hP hD hS d_Dev_load_26
    · have h := if_f hc h
      refine lv_aload_n hx hb d_Dev_load_11 rfl (lv_at hl 0 rfl) ?_
      refine gF_dev_words X hP d_Dev_load_12 ?_
      refine lv_iload_n hx hb d_Dev_load_15 rfl (lv_at hl 1 rfl) ?_
      refine lv_bipush (v := 64) hx hb d_Dev_load_16 (by decide) ?_
      refine lv_imul hx hb d_Dev_load_18 ?_
      refine lv_aload_n hx hb d_Dev_load_19 rfl (lv_at hl 2 rfl) ?_
      refine lv_iconst (v := 0) hx hb d_Dev_load_20 (by decide) ?_
      refine lv_bipush (v := 64) hx hb d_Dev_load_21 (by decide) ?_
      obtain ⟨g1, e1, h⟩ := bd_some h
      refine cpF_4_26 X hP hD hS hl.1.symm (X.2.2.2.2.2.2.1.use q3_206) e1 ⟨Nat.le_of_ble_eq_true rfl, Nat.le_of_ble_eq_true rfl⟩ d_Dev_load_23 (fun H locs hP hD hS => ?_)
      cases h
      exact fx_vret X hP hD hS d_Dev_load_26
set_option maxHeartbeats 4000000 in
set_option maxRecDepth 100000 in
theorem v_Dev_program_44_18 {p : Program} {l : Launch} {e : Env} {s : State} {m : MethodId} {args : Array Value} {below : List Frame} {meth : Method} {c : Code} {D : va_G} {ad : Nat → Nat} {ca : Nat → ClassId} {A : Nat → Prop} {FU : Nat} {q : St} (X : FX p s m meth c prog_4_method_6_code 4 none "FlashFiles$Device" D (tyF ca) A) {y1 : Int32} {y3 : Int32} {g : St} {H : Heap} {locs : List Loc} {ls : Array Slot} (hP : va_P D cls (wF ad ca g) H) (hD : va_D A (wF ad ca g)) (hS : va_S A s.heap H locs) (hl : lv_has ls 4 [(0, .ref (ad 3)), (1, .int y1), (2, .ref (ad 29)), (3, .int y3)]) (h : Dev_program_b44 FU 18 y1 y3 g = some q) : W p l e (rmN 1) s m args below meth c H locs 0 0 (MQ below (fxQv D (tyF ca) A (wF ad ca q)) args s 0 0 A) (F0 m 44 ls []) := by
  have hx := X.1
  have hb := X.2.1
  unfold Dev_program_b44 at h
  refine lv_aload_n hx hb d_Dev_program_44 rfl (lv_at hl 2 rfl) ?_
  refine lv_iload_n hx hb d_Dev_program_45 rfl (lv_at hl 3 rfl) ?_
  refine lv_aload_n hx hb d_Dev_program_46 rfl (lv_at hl 0 rfl) ?_
  refine gF_dev_words X hP d_Dev_program_47 ?_
  refine lv_iload_n hx hb d_Dev_program_50 rfl (lv_at hl 1 rfl) ?_
  refine lv_bipush (v := 64) hx hb d_Dev_program_51 (by decide) ?_
  refine lv_imul hx hb d_Dev_program_53 ?_
  refine lv_bipush (v := 64) hx hb d_Dev_program_54 (by decide) ?_
  obtain ⟨g1, e1, h⟩ := bd_some h
  refine cpF_18_4 X hP hD hS hl.1.symm (X.2.2.2.2.2.2.1.use q3_206) e1 ⟨Nat.le_of_ble_eq_true rfl, Nat.le_of_ble_eq_true rfl⟩ d_Dev_program_56 (fun H locs hP hD hS => ?_)
  refine lv_aload_n hx hb d_Dev_program_59 rfl (lv_at hl 0 rfl) ?_
  refine gF_dev_written X hP d_Dev_program_60 ?_
  refine lv_iload_n hx hb d_Dev_program_63 rfl (lv_at hl 1 rfl) ?_
  refine lv_iconst (v := 1) hx hb d_Dev_program_64 (by decide) ?_
  obtain ⟨g2, e1, h⟩ := bd_some h
  refine sF_5 X hP hD hS e1 d_Dev_program_65 (fun H locs hP hD hS => ?_)
  cases h
  exact fx_vret X hP hD hS d_Dev_program_66
set_option maxHeartbeats 4000000 in
set_option maxRecDepth 100000 in
theorem m_Dev_program_18 {l : Launch} {D : va_G} {ad : Nat → Nat} {ca : Nat → ClassId} {FU : Nat} {x1 : Int32} {x3 : Int32} {g : St} {q : St} (h : Dev_program FU 18 x1 x3 g = some q) : CV l ⟨"FlashFiles$Device", "program", "(I[II)V"⟩ prog_4_method_6_code 4 1 D (tyF ca) (wF ad ca g) [.ref (ad 3), .int x1, .ref (ad 29), .int x3] (wF ad ca q) := by
  intro sz
  refine Met.fx (Qc := fun A => fxQv D (tyF ca) A (wF ad ca q)) (by decide) (Nat.le_of_ble_eq_true rfl) ?_
  intro p e s m below meth c A ls X hP hD hl
  have hl : lv_has ls 4 [(0, .ref (ad 3)), (1, .int x1), (2, .ref (ad 29)), (3, .int x3)] := hl
  have hS : va_S A s.heap s.heap [] := va_S.rf
  have hx := X.1
  have hb := X.2.1
  unfold Dev_program at h
  refine lv_iload_n hx hb d_Dev_program_0 rfl (lv_at hl 1 rfl) ?_
  refine lv_if_lt (tgt := 24) hx hb d_Dev_program_1 (by decide) (fun hc => ?_) (fun hc => ?_)
  · have h := if_t hc h
    cases h
    exact fx_vret X hP hD hS d_Dev_program_24
  · have h := if_f hc h
    refine lv_iload_n hx hb d_Dev_program_4 rfl (lv_at hl 1 rfl) ?_
    refine lv_sipush (v := 2117) hx hb d_Dev_program_5 (by decide) ?_
    refine lv_icmp_ge (tgt := 24) hx hb d_Dev_program_8 (by decide) (fun hc => ?_) (fun hc => ?_)
    · have h := if_t hc h
      cases h
      exact fx_vret X hP hD hS d_Dev_program_24
    · have h := if_f hc h
      refine lv_iload_n hx hb d_Dev_program_11 rfl (lv_at hl 3 rfl) ?_
      refine lv_if_lt (tgt := 24) hx hb d_Dev_program_12 (by decide) (fun hc => ?_) (fun hc => ?_)
      · have h := if_t hc h
        cases h
        exact fx_vret X hP hD hS d_Dev_program_24
      · have h := if_f hc h
        refine lv_iload_n hx hb d_Dev_program_15 rfl (lv_at hl 3 rfl) ?_
        refine lv_aload_n hx hb d_Dev_program_16 rfl (lv_at hl 2 rfl) ?_
        refine va_alen (v := (nI (lenF 18))) hx hb X.2.2.2.2.2.2.2.1 hP 29 18 rfl rfl rfl d_Dev_program_17 ?_
        refine lv_bipush (v := 64) hx hb d_Dev_program_18 (by decide) ?_
        refine lv_isub hx hb d_Dev_program_20 ?_
        refine lv_icmp_le (tgt := 25) hx hb d_Dev_program_21 (by decide) (fun hc => ?_) (fun hc => ?_)
        · have h := if_t hc h
          refine lv_aload_n hx hb d_Dev_program_25 rfl (lv_at hl 0 rfl) ?_
          refine gF_dev_written X hP d_Dev_program_26 ?_
          refine lv_iload_n hx hb d_Dev_program_29 rfl (lv_at hl 1 rfl) ?_
          obtain ⟨v3, e1, h⟩ := bd_some h
          refine rF_5 X hP e1 d_Dev_program_30 ?_
          refine lv_if_eq (tgt := 44) hx hb d_Dev_program_31 (by decide) (fun hc => ?_) (fun hc => ?_)
          · have h := if_t hc h
            exact v_Dev_program_44_18 X  hP hD hS (lv_sub hl [0, 1, 2, 3] rfl) h
          · have h := if_f hc h
            refine lv_aload_n hx hb d_Dev_program_34 rfl (lv_at hl 0 rfl) ?_
            refine lv_dup hx hb d_Dev_program_35 rfl ?_
            refine gF_dev_spoiled X hP d_Dev_program_36 ?_
            refine lv_iconst (v := 1) hx hb d_Dev_program_39 (by decide) ?_
            refine lv_iadd hx hb d_Dev_program_40 ?_
            obtain ⟨g4, e1, h⟩ := nx_some h
            refine uF_dev_spoiled X hP hD hS e1 d_Dev_program_41 (fun H locs hP hD hS => ?_)
            exact v_Dev_program_44_18 X  hP hD hS (lv_sub hl [0, 1, 2, 3] rfl) h
        · have h := if_f hc h
          cases h
          exact fx_vret X hP hD hS d_Dev_program_24
set_option maxHeartbeats 4000000 in
set_option maxRecDepth 100000 in
theorem m_Dev_load_18 {l : Launch} {D : va_G} {ad : Nat → Nat} {ca : Nat → ClassId} {FU : Nat} {x1 : Int32} {g : St} {q : St} (h : Dev_load FU 18 x1 g = some q) : CV l ⟨"FlashFiles$Device", "load", "(I[I)V"⟩ prog_4_method_5_code 3 1 D (tyF ca) (wF ad ca g) [.ref (ad 3), .int x1, .ref (ad 29)] (wF ad ca q) := by
  intro sz
  refine Met.fx (Qc := fun A => fxQv D (tyF ca) A (wF ad ca q)) (by decide) (Nat.le_of_ble_eq_true rfl) ?_
  intro p e s m below meth c A ls X hP hD hl
  have hl : lv_has ls 3 [(0, .ref (ad 3)), (1, .int x1), (2, .ref (ad 29))] := hl
  have hS : va_S A s.heap s.heap [] := va_S.rf
  have hx := X.1
  have hb := X.2.1
  unfold Dev_load at h
  refine lv_iload_n hx hb d_Dev_load_0 rfl (lv_at hl 1 rfl) ?_
  refine lv_if_lt (tgt := 26) hx hb d_Dev_load_1 (by decide) (fun hc => ?_) (fun hc => ?_)
  · have h := if_t hc h
    cases h
    exact fx_vret X hP hD hS d_Dev_load_26
  · have h := if_f hc h
    refine lv_iload_n hx hb d_Dev_load_4 rfl (lv_at hl 1 rfl) ?_
    refine lv_sipush (v := 2117) hx hb d_Dev_load_5 (by decide) ?_
    refine lv_icmp_ge (tgt := 26) hx hb d_Dev_load_8 (by decide) (fun hc => ?_) (fun hc => ?_)
    · have h := if_t hc h
      cases h
      exact fx_vret X hP hD hS d_Dev_load_26
    · have h := if_f hc h
      refine lv_aload_n hx hb d_Dev_load_11 rfl (lv_at hl 0 rfl) ?_
      refine gF_dev_words X hP d_Dev_load_12 ?_
      refine lv_iload_n hx hb d_Dev_load_15 rfl (lv_at hl 1 rfl) ?_
      refine lv_bipush (v := 64) hx hb d_Dev_load_16 (by decide) ?_
      refine lv_imul hx hb d_Dev_load_18 ?_
      refine lv_aload_n hx hb d_Dev_load_19 rfl (lv_at hl 2 rfl) ?_
      refine lv_iconst (v := 0) hx hb d_Dev_load_20 (by decide) ?_
      refine lv_bipush (v := 64) hx hb d_Dev_load_21 (by decide) ?_
      obtain ⟨g1, e1, h⟩ := bd_some h
      refine cpF_4_18 X hP hD hS hl.1.symm (X.2.2.2.2.2.2.1.use q3_206) e1 ⟨Nat.le_of_ble_eq_true rfl, Nat.le_of_ble_eq_true rfl⟩ d_Dev_load_23 (fun H locs hP hD hS => ?_)
      cases h
      exact fx_vret X hP hD hS d_Dev_load_26
