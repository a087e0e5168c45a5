theorem d_FF_format_0 : decode prog_1_method_2_code 0 = .ok (.iload_n 1, 1) := by decide +kernel
theorem d_FF_format_1 : decode prog_1_method_2_code 1 = .ok (.bipush 48, 2) := by decide +kernel
theorem d_FF_format_3 : decode prog_1_method_2_code 3 = .ok (.if_icmp .lt 23, 3) := by decide +kernel
theorem d_FF_format_6 : decode prog_1_method_2_code 6 = .ok (.iload_n 1, 1) := by decide +kernel
theorem d_FF_format_7 : decode prog_1_method_2_code 7 = .ok (.sipush 128, 3) := by decide +kernel
theorem d_FF_format_10 : decode prog_1_method_2_code 10 = .ok (.if_icmp .gt 16, 3) := by decide +kernel
theorem d_FF_format_13 : decode prog_1_method_2_code 13 = .ok (.iload_n 2, 1) := by decide +kernel
theorem d_FF_format_14 : decode prog_1_method_2_code 14 = .ok (.bipush 24, 2) := by decide +kernel
theorem d_FF_format_16 : decode prog_1_method_2_code 16 = .ok (.if_icmp .lt 10, 3) := by decide +kernel
theorem d_FF_format_19 : decode prog_1_method_2_code 19 = .ok (.iload_n 2, 1) := by decide +kernel
theorem d_FF_format_20 : decode prog_1_method_2_code 20 = .ok (.iload_n 1, 1) := by decide +kernel
theorem d_FF_format_21 : decode prog_1_method_2_code 21 = .ok (.iconst 2, 1) := by decide +kernel
theorem d_FF_format_22 : decode prog_1_method_2_code 22 = .ok (.idiv, 1) := by decide +kernel
theorem d_FF_format_23 : decode prog_1_method_2_code 23 = .ok (.if_icmp .le 13, 3) := by decide +kernel
theorem d_FF_format_26 : decode prog_1_method_2_code 26 = .ok (.new 98, 3) := by decide +kernel
theorem d_FF_format_29 : decode prog_1_method_2_code 29 = .ok (.dup, 1) := by decide +kernel
theorem d_FF_format_30 : decode prog_1_method_2_code 30 = .ok (.ldc 100, 2) := by decide +kernel
theorem d_FF_format_32 : decode prog_1_method_2_code 32 = .ok (.invokespecial 102, 3) := by decide +kernel
theorem d_FF_format_35 : decode prog_1_method_2_code 35 = .ok (.athrow, 1) := by decide +kernel
theorem d_FF_format_36 : decode prog_1_method_2_code 36 = .ok (.aload_n 0, 1) := by decide +kernel
theorem d_FF_format_37 : decode prog_1_method_2_code 37 = .ok (.iconst (-1), 1) := by decide +kernel
theorem d_FF_format_38 : decode prog_1_method_2_code 38 = .ok (.putfield 92, 3) := by decide +kernel
theorem d_FF_format_41 : decode prog_1_method_2_code 41 = .ok (.aload_n 0, 1) := by decide +kernel
theorem d_FF_format_42 : decode prog_1_method_2_code 42 = .ok (.iconst 0, 1) := by decide +kernel
theorem d_FF_format_43 : decode prog_1_method_2_code 43 = .ok (.putfield 95, 3) := by decide +kernel
theorem d_FF_format_46 : decode prog_1_method_2_code 46 = .ok (.aload_n 0, 1) := by decide +kernel
theorem d_FF_format_47 : decode prog_1_method_2_code 47 = .ok (.getfield 75, 3) := by decide +kernel
theorem d_FF_format_50 : decode prog_1_method_2_code 50 = .ok (.iload_n 1, 1) := by decide +kernel
theorem d_FF_format_51 : decode prog_1_method_2_code 51 = .ok (.iload_n 2, 1) := by decide +kernel
theorem d_FF_format_52 : decode prog_1_method_2_code 52 = .ok (.invokevirtual 105, 3) := by decide +kernel
theorem d_FF_format_55 : decode prog_1_method_2_code 55 = .ok (.aload_n 0, 1) := by decide +kernel
theorem d_FF_format_56 : decode prog_1_method_2_code 56 = .ok (.getfield 63, 3) := by decide +kernel
theorem d_FF_format_59 : decode prog_1_method_2_code 59 = .ok (.invokevirtual 109, 3) := by decide +kernel
theorem d_FF_format_62 : decode prog_1_method_2_code 62 = .ok (.aload_n 0, 1) := by decide +kernel
theorem d_FF_format_63 : decode prog_1_method_2_code 63 = .ok (.getfield 75, 3) := by decide +kernel
theorem d_FF_format_66 : decode prog_1_method_2_code 66 = .ok (.invokevirtual 112, 3) := by decide +kernel
theorem d_FF_format_69 : decode prog_1_method_2_code 69 = .ok (.aload_n 0, 1) := by decide +kernel
theorem d_FF_format_70 : decode prog_1_method_2_code 70 = .ok (.iconst 2, 1) := by decide +kernel
theorem d_FF_format_71 : decode prog_1_method_2_code 71 = .ok (.putfield 88, 3) := by decide +kernel
theorem d_FF_format_74 : decode prog_1_method_2_code 74 = .ok (.return_, 1) := by decide +kernel
set_option maxHeartbeats 4000000 in
set_option maxRecDepth 100000 in
theorem m_FF_format {l : Launch} {D : va_G} {ad : Nat → Nat} {ca : Nat → ClassId} {FU : Nat} {x1 : Int32} {x2 : Int32} {g : St} {q : Nat × Int32 × St} (h : FF_format FU x1 x2 g = some q) : CX l ⟨"FlashFiles", "format", "(II)V"⟩ prog_1_method_2_code 3 9 none D (tyF ca) (wF ad ca g) [.ref (ad 0), .int x1, .int x2] q.1 none (wF ad ca q.2.2) := by
  refine CX.fx (by decide) (Nat.le_of_ble_eq_true rfl) ?_
  intro p e s m below meth c A ls X hE hZ htr hP hD hl
  have hl : lv_has ls 3 [(0, .ref (ad 0)), (1, .int x1), (2, .int x2)] := hl
  have hS : va_S A s.heap s.heap [] := va_S.rf
  have hx := X.1
  have hb := X.2.1
  unfold FF_format at h
  refine lv_iload_n hx hb d_FF_format_0 rfl (lv_at hl 1 rfl) ?_
  refine lv_bipush (v := 48) hx hb d_FF_format_1 (by decide) ?_
  refine lv_icmp_lt (tgt := 26) hx hb d_FF_format_3 (by decide) (fun hc => ?_) (fun hc => ?_)
  · have h := if_t hc h
    cases h
    exact xx_throwS (k := 1) (ik := 98) (is := 100) (ic := 102) (text := "no such device") (names := exN) X hE hZ htr (by decide) hP hD hS (by decide) (by decide) at_1_102 cl_98 in_E1 (List.mem_of_getElem? (i := 4) rfl) hl.1 d_FF_format_26 d_FF_format_29 d_FF_format_30 d_FF_format_32 d_FF_format_35 ⟨⟨by decide, Nat.le_of_ble_eq_true rfl⟩, by decide, by decide⟩
  · have h := if_f hc h
    refine lv_iload_n hx hb d_FF_format_6 rfl (lv_at hl 1 rfl) ?_
    refine lv_sipush (v := 128) hx hb d_FF_format_7 (by decide) ?_
    refine lv_icmp_gt (tgt := 26) hx hb d_FF_format_10 (by decide) (fun hc => ?_) (fun hc => ?_)
    · have h := if_t hc h
      cases h
      exact xx_throwS (k := 1) (ik := 98) (is := 100) (ic := 102) (text := "no such device") (names := exN) X hE hZ htr (by decide) hP hD hS (by decide) (by decide) at_1_102 cl_98 in_E1 (List.mem_of_getElem? (i := 4) rfl) hl.1 d_FF_format_26 d_FF_format_29 d_FF_format_30 d_FF_format_32 d_FF_format_35 ⟨⟨by decide, Nat.le_of_ble_eq_true rfl⟩, by decide, by decide⟩
    · have h := if_f hc h
      refine lv_iload_n hx hb d_FF_format_13 rfl (lv_at hl 2 rfl) ?_
      refine lv_bipush (v := 24) hx hb d_FF_format_14 (by decide) ?_
      refine lv_icmp_lt (tgt := 26) hx hb d_FF_format_16 (by decide) (fun hc => ?_) (fun hc => ?_)
      · have h := if_t hc h
        cases h
        exact xx_throwS (k := 1) (ik := 98) (is := 100) (ic := 102) (text := "no such device") (names := exN) X hE hZ htr (by decide) hP hD hS (by decide) (by decide) at_1_102 cl_98 in_E1 (List.mem_of_getElem? (i := 4) rfl) hl.1 d_FF_format_26 d_FF_format_29 d_FF_format_30 d_FF_format_32 d_FF_format_35 ⟨⟨by decide, Nat.le_of_ble_eq_true rfl⟩, by decide, by decide⟩
      · have h := if_f hc h
        refine lv_iload_n hx hb d_FF_format_19 rfl (lv_at hl 2 rfl) ?_
        refine lv_iload_n hx hb d_FF_format_20 rfl (lv_at hl 1 rfl) ?_
        refine lv_iconst (v := 2) hx hb d_FF_format_21 (by decide) ?_
        refine lv_idiv hx hb d_FF_format_22 (by decide) ?_
        refine lv_icmp_le (tgt := 36) hx hb d_FF_format_23 (by decide) (fun hc => ?_) (fun hc => ?_)
        · have h := if_t hc h
          refine lv_aload_n hx hb d_FF_format_36 rfl (lv_at hl 0 rfl) ?_
          refine lv_iconst (v := -1) hx hb d_FF_format_37 (by decide) ?_
          obtain ⟨g1, e1, h⟩ := nx_some h
          refine uF_ff_cutAfter X hP hD hS e1 d_FF_format_38 (fun H locs hP hD hS => ?_)
          refine lv_aload_n hx hb d_FF_format_41 rfl (lv_at hl 0 rfl) ?_
          refine lv_iconst (v := 0) hx hb d_FF_format_42 (by decide) ?_
          obtain ⟨g2, e1, h⟩ := nx_some h
          refine uF_ff_broughtForward X hP hD hS e1 d_FF_format_43 (fun H locs hP hD hS => ?_)
          refine lv_aload_n hx hb d_FF_format_46 rfl (lv_at hl 0 rfl) ?_
          refine gF_ff_checkpoints X hP d_FF_format_47 ?_
          refine lv_iload_n hx hb d_FF_format_50 rfl (lv_at hl 1 rfl) ?_
          refine lv_iload_n hx hb d_FF_format_51 rfl (lv_at hl 2 rfl) ?_
          obtain ⟨p3, e1, h⟩ := bd_some h
          refine fx_v X (fx_runV (As := [.int x1, .int x2]) X (m_Chk_startAnew e1 _) hP hD kv_FF_105 ⟨Nat.le_of_ble_eq_true rfl, Nat.le_of_ble_eq_true rfl⟩ 9 rfl rfl rfl hl.1 rfl (Nat.le_of_ble_eq_true rfl) d_FF_format_52) hD hS (fun H locs hP hD hS => ?_)
          refine lv_aload_n hx hb d_FF_format_55 rfl (lv_at hl 0 rfl) ?_
          refine gF_ff_tree X hP d_FF_format_56 ?_
          obtain ⟨p4, e1, h⟩ := bd_some h
          refine fx_v X (fx_runV (As := []) X (m_Tre_makeRoot e1 _) hP hD kv_FF_109 ⟨Nat.le_of_ble_eq_true rfl, Nat.le_of_ble_eq_true rfl⟩ 7 rfl rfl rfl hl.1 rfl (Nat.le_of_ble_eq_true rfl) d_FF_format_59) hD hS (fun H locs hP hD hS => ?_)
          refine lv_aload_n hx hb d_FF_format_62 rfl (lv_at hl 0 rfl) ?_
          refine gF_ff_checkpoints X hP d_FF_format_63 ?_
          obtain ⟨p5, e1, h⟩ := bd_some h
          refine fx_v X (fx_runV (As := []) X (m_Chk_take e1 _) hP hD kv_FF_112 ⟨Nat.le_of_ble_eq_true rfl, Nat.le_of_ble_eq_true rfl⟩ 9 rfl rfl rfl hl.1 rfl (Nat.le_of_ble_eq_true rfl) d_FF_format_66) hD hS (fun H locs hP hD hS => ?_)
          refine lv_aload_n hx hb d_FF_format_69 rfl (lv_at hl 0 rfl) ?_
          refine lv_iconst (v := 2) hx hb d_FF_format_70 (by decide) ?_
          obtain ⟨g6, e1, h⟩ := nx_some h
          refine uF_ff_state X hP hD hS e1 d_FF_format_71 (fun H locs hP hD hS => ?_)
          cases h
          exact xx_vret X hP hD hS d_FF_format_74
        · have h := if_f hc h
          cases h
          exact xx_throwS (k := 1) (ik := 98) (is := 100) (ic := 102) (text := "no such device") (names := exN) X hE hZ htr (by decide) hP hD hS (by decide) (by decide) at_1_102 cl_98 in_E1 (List.mem_of_getElem? (i := 4) rfl) hl.1 d_FF_format_26 d_FF_format_29 d_FF_format_30 d_FF_format_32 d_FF_format_35 ⟨⟨by decide, Nat.le_of_ble_eq_true rfl⟩, by decide, by decide⟩
theorem d_FF_feed_0 : decode prog_1_method_3_code 0 = .ok (.aload_n 0, 1) := by decide +kernel
theorem d_FF_feed_1 : decode prog_1_method_3_code 1 = .ok (.getfield 14, 3) := by decide +kernel
theorem d_FF_feed_4 : decode prog_1_method_3_code 4 = .ok (.invokevirtual 115, 3) := by decide +kernel
theorem d_FF_feed_7 : decode prog_1_method_3_code 7 = .ok (.sipush 2040, 3) := by decide +kernel
theorem d_FF_feed_10 : decode prog_1_method_3_code 10 = .ok (.if_icmp .le 13, 3) := by decide +kernel
theorem d_FF_feed_13 : decode prog_1_method_3_code 13 = .ok (.new 119, 3) := by decide +kernel
theorem d_FF_feed_16 : decode prog_1_method_3_code 16 = .ok (.dup, 1) := by decide +kernel
theorem d_FF_feed_17 : decode prog_1_method_3_code 17 = .ok (.ldc 121, 2) := by decide +kernel
theorem d_FF_feed_19 : decode prog_1_method_3_code 19 = .ok (.invokespecial 123, 3) := by decide +kernel
theorem d_FF_feed_22 : decode prog_1_method_3_code 22 = .ok (.athrow, 1) := by decide +kernel
theorem d_FF_feed_23 : decode prog_1_method_3_code 23 = .ok (.aload_n 0, 1) := by decide +kernel
theorem d_FF_feed_24 : decode prog_1_method_3_code 24 = .ok (.getfield 14, 3) := by decide +kernel
theorem d_FF_feed_27 : decode prog_1_method_3_code 27 = .ok (.iload_n 1, 1) := by decide +kernel
theorem d_FF_feed_28 : decode prog_1_method_3_code 28 = .ok (.invokevirtual 124, 3) := by decide +kernel
theorem d_FF_feed_31 : decode prog_1_method_3_code 31 = .ok (.aload_n 0, 1) := by decide +kernel
theorem d_FF_feed_32 : decode prog_1_method_3_code 32 = .ok (.getfield 14, 3) := by decide +kernel
theorem d_FF_feed_35 : decode prog_1_method_3_code 35 = .ok (.iload_n 2, 1) := by decide +kernel
theorem d_FF_feed_36 : decode prog_1_method_3_code 36 = .ok (.invokevirtual 124, 3) := by decide +kernel
theorem d_FF_feed_39 : decode prog_1_method_3_code 39 = .ok (.aload_n 0, 1) := by decide +kernel
theorem d_FF_feed_40 : decode prog_1_method_3_code 40 = .ok (.getfield 14, 3) := by decide +kernel
theorem d_FF_feed_43 : decode prog_1_method_3_code 43 = .ok (.iload_n 3, 1) := by decide +kernel
theorem d_FF_feed_44 : decode prog_1_method_3_code 44 = .ok (.invokevirtual 124, 3) := by decide +kernel
theorem d_FF_feed_47 : decode prog_1_method_3_code 47 = .ok (.aload_n 0, 1) := by decide +kernel
theorem d_FF_feed_48 : decode prog_1_method_3_code 48 = .ok (.getfield 14, 3) := by decide +kernel
theorem d_FF_feed_51 : decode prog_1_method_3_code 51 = .ok (.iload 4, 2) := by decide +kernel
theorem d_FF_feed_53 : decode prog_1_method_3_code 53 = .ok (.invokevirtual 124, 3) := by decide +kernel
theorem d_FF_feed_56 : decode prog_1_method_3_code 56 = .ok (.aload_n 0, 1) := by decide +kernel
theorem d_FF_feed_57 : decode prog_1_method_3_code 57 = .ok (.getfield 14, 3) := by decide +kernel
theorem d_FF_feed_60 : decode prog_1_method_3_code 60 = .ok (.iload 5, 2) := by decide +kernel
theorem d_FF_feed_62 : decode prog_1_method_3_code 62 = .ok (.invokevirtual 124, 3) := by decide +kernel
theorem d_FF_feed_65 : decode prog_1_method_3_code 65 = .ok (.aload_n 0, 1) := by decide +kernel
theorem d_FF_feed_66 : decode prog_1_method_3_code 66 = .ok (.getfield 14, 3) := by decide +kernel
theorem d_FF_feed_69 : decode prog_1_method_3_code 69 = .ok (.invokevirtual 115, 3) := by decide +kernel
theorem d_FF_feed_72 : decode prog_1_method_3_code 72 = .ok (.ireturn, 1) := by decide +kernel
set_option maxHeartbeats 4000000 in
set_option maxRecDepth 100000 in
theorem m_FF_feed {l : Launch} {D : va_G} {ad : Nat → Nat} {ca : Nat → ClassId} {FU : Nat} {x1 : Int32} {x2 : Int32} {x3 : Int32} {x4 : Int32} {x5 : Int32} {g : St} {q : Nat × Int32 × St} (h : FF_feed FU x1 x2 x3 x4 x5 g = some q) : CX l ⟨"FlashFiles", "feed", "(IIIII)I"⟩ prog_1_method_3_code 6 6 (some .int) D (tyF ca) (wF ad ca g) [.ref (ad 0), .int x1, .int x2, .int x3, .int x4, .int x5] q.1 (some (.int q.2.1)) (wF ad ca q.2.2) := by
  refine CX.fx (by decide) (Nat.le_of_ble_eq_true rfl) ?_
  intro p e s m below meth c A ls X hE hZ htr hP hD hl
  have hl : lv_has ls 6 [(0, .ref (ad 0)), (1, .int x1), (2, .int x2), (3, .int x3), (4, .int x4), (5, .int x5)] := hl
  have hS : va_S A s.heap s.heap [] := va_S.rf
  have hx := X.1
  have hb := X.2.1
  unfold FF_feed at h
  refine lv_aload_n hx hb d_FF_feed_0 rfl (lv_at hl 0 rfl) ?_
  refine gF_ff_onTape X hP d_FF_feed_1 ?_
  obtain ⟨v1, e1, h⟩ := bd_some h
  refine fx_i X (fx_runV (As := []) X (m_Row_length_0 e1 _) hP hD kv_FF_115 ⟨Nat.le_of_ble_eq_true rfl, Nat.le_of_ble_eq_true rfl⟩ 1 rfl rfl rfl hl.1 rfl (Nat.le_of_ble_eq_true rfl) d_FF_feed_4) hD hS (fun H locs hP hD hS => ?_)
  refine lv_sipush (v := 2040) hx hb d_FF_feed_7 (by decide) ?_
  refine lv_icmp_le (tgt := 23) hx hb d_FF_feed_10 (by decide) (fun hc => ?_) (fun hc => ?_)
  · have h := if_t hc h
    refine lv_aload_n hx hb d_FF_feed_23 rfl (lv_at hl 0 rfl) ?_
    refine gF_ff_onTape X hP d_FF_feed_24 ?_
    refine lv_iload_n hx hb d_FF_feed_27 rfl (lv_at hl 1 rfl) ?_
    obtain ⟨p2, e1, h⟩ := bd_some h
    refine fx_v X (fx_runV (As := [.int x1]) X (m_Row_addWord_0 e1 _) hP hD kv_FF_124 ⟨Nat.le_of_ble_eq_true rfl, Nat.le_of_ble_eq_true rfl⟩ 1 rfl rfl rfl hl.1 rfl (Nat.le_of_ble_eq_true rfl) d_FF_feed_28) hD hS (fun H locs hP hD hS => ?_)
    refine lv_aload_n hx hb d_FF_feed_31 rfl (lv_at hl 0 rfl) ?_
    refine gF_ff_onTape X hP d_FF_feed_32 ?_
    refine lv_iload_n hx hb d_FF_feed_35 rfl (lv_at hl 2 rfl) ?_
    obtain ⟨p3, e1, h⟩ := bd_some h
    refine fx_v X (fx_runV (As := [.int x2]) X (m_Row_addWord_0 e1 _) hP hD kv_FF_124 ⟨Nat.le_of_ble_eq_true rfl, Nat.le_of_ble_eq_true rfl⟩ 1 rfl rfl rfl hl.1 rfl (Nat.le_of_ble_eq_true rfl) d_FF_feed_36) hD hS (fun H locs hP hD hS => ?_)
    refine lv_aload_n hx hb d_FF_feed_39 rfl (lv_at hl 0 rfl) ?_
    refine gF_ff_onTape X hP d_FF_feed_40 ?_
    refine lv_iload_n hx hb d_FF_feed_43 rfl (lv_at hl 3 rfl) ?_
    obtain ⟨p4, e1, h⟩ := bd_some h
    refine fx_v X (fx_runV (As := [.int x3]) X (m_Row_addWord_0 e1 _) hP hD kv_FF_124 ⟨Nat.le_of_ble_eq_true rfl, Nat.le_of_ble_eq_true rfl⟩ 1 rfl rfl rfl hl.1 rfl (Nat.le_of_ble_eq_true rfl) d_FF_feed_44) hD hS (fun H locs hP hD hS => ?_)
    refine lv_aload_n hx hb d_FF_feed_47 rfl (lv_at hl 0 rfl) ?_
    refine gF_ff_onTape X hP d_FF_feed_48 ?_
    refine lv_iload hx hb d_FF_feed_51 (lv_at hl 4 rfl) ?_
    obtain ⟨p5, e1, h⟩ := bd_some h
    refine fx_v X (fx_runV (As := [.int x4]) X (m_Row_addWord_0 e1 _) hP hD kv_FF_124 ⟨Nat.le_of_ble_eq_true rfl, Nat.le_of_ble_eq_true rfl⟩ 1 rfl rfl rfl hl.1 rfl (Nat.le_of_ble_eq_true rfl) d_FF_feed_53) hD hS (fun H locs hP hD hS => ?_)
    refine lv_aload_n hx hb d_FF_feed_56 rfl (lv_at hl 0 rfl) ?_
    refine gF_ff_onTape X hP d_FF_feed_57 ?_
    refine lv_iload hx hb d_FF_feed_60 (lv_at hl 5 rfl) ?_
    obtain ⟨p6, e1, h⟩ := bd_some h
    refine fx_v X (fx_runV (As := [.int x5]) X (m_Row_addWord_0 e1 _) hP hD kv_FF_124 ⟨Nat.le_of_ble_eq_true rfl, Nat.le_of_ble_eq_true rfl⟩ 1 rfl rfl rfl hl.1 rfl (Nat.le_of_ble_eq_true rfl) d_FF_feed_62) hD hS (fun H locs hP hD hS => ?_)
    refine lv_aload_n hx hb d_FF_feed_65 rfl (lv_at hl 0 rfl) ?_
    refine gF_ff_onTape X hP d_FF_feed_66 ?_
    obtain ⟨v7, e1, h⟩ := bd_some h
    refine fx_i X (fx_runV (As := []) X (m_Row_length_0 e1 _) hP hD kv_FF_115 ⟨Nat.le_of_ble_eq_true rfl, Nat.le_of_ble_eq_true rfl⟩ 1 rfl rfl rfl hl.1 rfl (Nat.le_of_ble_eq_true rfl) d_FF_feed_69) hD hS (fun H locs hP hD hS => ?_)
    cases h
    exact xx_iret X hP hD hS d_FF_feed_72
  · have h := if_f hc h
    cases h
    exact xx_throwS (k := 2) (ik := 119) (is := 121) (ic := 123) (text := "the tape is full") (names := exN) X hE hZ htr (by decide) hP hD hS (by decide) (by decide) at_2_123 cl_119 in_E2 (List.mem_of_getElem? (i := 5) rfl) hl.1 d_FF_feed_13 d_FF_feed_16 d_FF_feed_17 d_FF_feed_19 d_FF_feed_22 ⟨⟨by decide, Nat.le_of_ble_eq_true rfl⟩, by decide, by decide⟩
theorem d_FF_tape_0 : decode prog_1_method_4_code 0 = .ok (.iload_n 1, 1) := by decide +kernel
theorem d_FF_tape_1 : decode prog_1_method_4_code 1 = .ok (.ifCond .le 22, 3) := by decide +kernel
theorem d_FF_tape_4 : decode prog_1_method_4_code 4 = .ok (.iload_n 1, 1) := by decide +kernel
theorem d_FF_tape_5 : decode prog_1_method_4_code 5 = .ok (.aload_n 0, 1) := by decide +kernel
theorem d_FF_tape_6 : decode prog_1_method_4_code 6 = .ok (.getfield 14, 3) := by decide +kernel
theorem d_FF_tape_9 : decode prog_1_method_4_code 9 = .ok (.invokevirtual 115, 3) := by decide +kernel
theorem d_FF_tape_12 : decode prog_1_method_4_code 12 = .ok (.if_icmp .ge 11, 3) := by decide +kernel
theorem d_FF_tape_15 : decode prog_1_method_4_code 15 = .ok (.aload_n 0, 1) := by decide +kernel
theorem d_FF_tape_16 : decode prog_1_method_4_code 16 = .ok (.getfield 14, 3) := by decide +kernel
theorem d_FF_tape_19 : decode prog_1_method_4_code 19 = .ok (.iload_n 1, 1) := by decide +kernel
theorem d_FF_tape_20 : decode prog_1_method_4_code 20 = .ok (.invokevirtual 127, 3) := by decide +kernel
theorem d_FF_tape_23 : decode prog_1_method_4_code 23 = .ok (.aload_n 0, 1) := by decide +kernel
theorem d_FF_tape_24 : decode prog_1_method_4_code 24 = .ok (.getfield 14, 3) := by decide +kernel
theorem d_FF_tape_27 : decode prog_1_method_4_code 27 = .ok (.invokevirtual 115, 3) := by decide +kernel
theorem d_FF_tape_30 : decode prog_1_method_4_code 30 = .ok (.ireturn, 1) := by decide +kernel
set_option maxHeartbeats 4000000 in
set_option maxRecDepth 100000 in
theorem v_FF_tape_23 {p : Program} {l : Launch} {e : Env} {s : State} {m : MethodId} {args : Array Value} {below : List Frame} {meth : Method} {c : Code} {D : va_G} {ad : Nat → Nat} {ca : Nat → ClassId} {A : Nat → Prop} {FU : Nat} {q : Int32 × St} (X : FX p s m meth c prog_1_method_4_code 2 (some .int) "FlashFiles" D (tyF ca) A)  {g : St} {H : Heap} {locs : List Loc} {ls : Array Slot} (hP : va_P D cls (wF ad ca g) H) (hD : va_D A (wF ad ca g)) (hS : va_S A s.heap H locs) (hl : lv_has ls 2 [(0, .ref (ad 0))]) (h : FF_tape_b23 FU g = some q) : W p l e (rmN 2) s m args below meth c H locs 0 0 (MQ below (fxQi D (tyF ca) A (wF ad ca q.2) q.1) args s 0 0 A) (F0 m 23 ls []) := by
  have hx := X.1
  have hb := X.2.1
  unfold FF_tape_b23 at h
  refine lv_aload_n hx hb d_FF_tape_23 rfl (lv_at hl 0 rfl) ?_
  refine gF_ff_onTape X hP d_FF_tape_24 ?_
  obtain ⟨v1, e1, h⟩ := bd_some h
  refine fx_i X (fx_runV (As := []) X (m_Row_length_0 e1 _) hP hD kv_FF_115 ⟨Nat.le_of_ble_eq_true rfl, Nat.le_of_ble_eq_true rfl⟩ 1 rfl rfl rfl hl.1 rfl (Nat.le_of_ble_eq_true rfl) d_FF_tape_27) hD hS (fun H locs hP hD hS => ?_)
  cases h
  exact fx_iret X hP hD hS d_FF_tape_30
set_option maxHeartbeats 4000000 in
set_option maxRecDepth 100000 in
theorem m_FF_tape {l : Launch} {D : va_G} {ad : Nat → Nat} {ca : Nat → ClassId} {FU : Nat} {x1 : Int32} {g : St} {q : Int32 × St} (h : FF_tape FU x1 g = some q) : CI l ⟨"FlashFiles", "tape", "(I)I"⟩ prog_1_method_4_code 2 2 (some .int) D (tyF ca) (wF ad ca g) [.ref (ad 0), .int x1] q.1 (wF ad ca q.2) := by
  intro sz
  refine Met.fx (Qc := fun A => fxQi D (tyF ca) A (wF ad ca q.2) q.1) (by decide) (Nat.le_of_ble_eq_true rfl) ?_
  intro p e s m below meth c A ls X hP hD hl
  have hl : lv_has ls 2 [(0, .ref (ad 0)), (1, .int x1)] := hl
  have hS : va_S A s.heap s.heap [] := va_S.rf
  have hx := X.1
  have hb := X.2.1
  unfold FF_tape at h
  refine lv_iload_n hx hb d_FF_tape_0 rfl (lv_at hl 1 rfl) ?_
  refine lv_if_le (tgt := 23) hx hb d_FF_tape_1 (by decide) (fun hc => ?_) (fun hc => ?_)
  · have h := if_t hc h
    exact v_FF_tape_23 X  hP hD hS (lv_sub hl [0] rfl) h
  · have h := if_f hc h
    refine lv_iload_n hx hb d_FF_tape_4 rfl (lv_at hl 1 rfl) ?_
    refine lv_aload_n hx hb d_FF_tape_5 rfl (lv_at hl 0 rfl) ?_
    refine gF_ff_onTape X hP d_FF_tape_6 ?_
    obtain ⟨v2, e1, h⟩ := bd_some h
    refine fx_i X (fx_runV (As := []) X (m_Row_length_0 e1 _) hP hD kv_FF_115 ⟨Nat.le_of_ble_eq_true rfl, Nat.le_of_ble_eq_true rfl⟩ 1 rfl rfl rfl hl.1 rfl (Nat.le_of_ble_eq_true rfl) d_FF_tape_9) hD hS (fun H locs hP hD hS => ?_)
    refine lv_icmp_ge (tgt := 23) hx hb d_FF_tape_12 (by decide) (fun hc => ?_) (fun hc => ?_)
    · have h := if_t hc h
      exact v_FF_tape_23 X  hP hD hS (lv_sub hl [0] rfl) h
    · have h := if_f hc h
      refine lv_aload_n hx hb d_FF_tape_15 rfl (lv_at hl 0 rfl) ?_
      refine gF_ff_onTape X hP d_FF_tape_16 ?_
      refine lv_iload_n hx hb d_FF_tape_19 rfl (lv_at hl 1 rfl) ?_
      obtain ⟨p3, e1, h⟩ := bd_some h
      refine fx_v X (fx_runV (As := [.int x1]) X (m_Row_setLength_0 e1 _) hP hD kv_FF_127 ⟨Nat.le_of_ble_eq_true rfl, Nat.le_of_ble_eq_true rfl⟩ 1 rfl rfl rfl hl.1 rfl (Nat.le_of_ble_eq_true rfl) d_FF_tape_20) hD hS (fun H locs hP hD hS => ?_)
      exact v_FF_tape_23 X  hP hD hS (lv_sub hl [0] rfl) h
theorem d_FF_requireNewId_0 : decode prog_1_method_30_code 0 = .ok (.aload_n 0, 1) := by decide +kernel
theorem d_FF_requireNewId_1 : decode prog_1_method_30_code 1 = .ok (.getfield 38, 3) := by decide +kernel
theorem d_FF_requireNewId_4 : decode prog_1_method_30_code 4 = .ok (.invokevirtual 288, 3) := by decide +kernel
theorem d_FF_requireNewId_7 : decode prog_1_method_30_code 7 = .ok (.ifCond .ne 14, 3) := by decide +kernel
theorem d_FF_requireNewId_10 : decode prog_1_method_30_code 10 = .ok (.new 119, 3) := by decide +kernel
theorem d_FF_requireNewId_13 : decode prog_1_method_30_code 13 = .ok (.dup, 1) := by decide +kernel
theorem d_FF_requireNewId_14 : decode prog_1_method_30_code 14 = .ok (.ldc_w 291, 3) := by decide +kernel
theorem d_FF_requireNewId_17 : decode prog_1_method_30_code 17 = .ok (.invokespecial 123, 3) := by decide +kernel
theorem d_FF_requireNewId_20 : decode prog_1_method_30_code 20 = .ok (.athrow, 1) := by decide +kernel
theorem d_FF_requireNewId_21 : decode prog_1_method_30_code 21 = .ok (.return_, 1) := by decide +kernel
set_option maxHeartbeats 4000000 in
set_option maxRecDepth 100000 in
theorem m_FF_requireNewId {l : Launch} {D : va_G} {ad : Nat → Nat} {ca : Nat → ClassId} {FU : Nat} {g : St} {q : Nat × Int32 × St} (h : FF_requireNewId FU  g = some q) : CX l ⟨"FlashFiles", "requireNewId", "()V"⟩ prog_1_method_30_code 1 6 none D (tyF ca) (wF ad ca g) [.ref (ad 0)] q.1 none (wF ad ca q.2.2) := by
  refine CX.fx (by decide) (Nat.le_of_ble_eq_true rfl) ?_
  intro p e s m below meth c A ls X hE hZ htr hP hD hl
  have hl : lv_has ls 1 [(0, .ref (ad 0))] := hl
  have hS : va_S A s.heap s.heap [] := va_S.rf
  have hx := X.1
  have hb := X.2.1
  unfold FF_requireNewId at h
  refine lv_aload_n hx hb d_FF_requireNewId_0 rfl (lv_at hl 0 rfl) ?_
  refine gF_ff_table X hP d_FF_requireNewId_1 ?_
  obtain ⟨v1, e1, h⟩ := bd_some h
  refine fx_i X (fx_runV (As := []) X (m_Tab_lowestId e1 _) hP hD kv_FF_288 ⟨Nat.le_of_ble_eq_true rfl, Nat.le_of_ble_eq_true rfl⟩ 4 rfl rfl rfl hl.1 rfl (Nat.le_of_ble_eq_true rfl) d_FF_requireNewId_4) hD hS (fun H locs hP hD hS => ?_)
  refine lv_if_ne (tgt := 21) hx hb d_FF_requireNewId_7 (by decide) (fun hc => ?_) (fun hc => ?_)
  · have h := if_f hc h
    cases h
    exact xx_vret X hP hD hS d_FF_requireNewId_21
  · have h := if_t hc h
    cases h
    exact xx_throwW (k := 2) (ik := 119) (is := 291) (ic := 123) (text := "all ids are in use") (names := exN) X hE hZ htr (by decide) hP hD hS (by decide) (by decide) at_2_123 cl_119 in_E2 (List.mem_of_getElem? (i := 9) rfl) hl.1 d_FF_requireNewId_10 d_FF_requireNewId_13 d_FF_requireNewId_14 d_FF_requireNewId_17 d_FF_requireNewId_20 ⟨⟨by decide, Nat.le_of_ble_eq_true rfl⟩, by decide, by decide⟩
theorem d_FF_requireNamed_0 : decode prog_1_method_28_code 0 = .ok (.iload_n 2, 1) := by decide +kernel
theorem d_FF_requireNamed_1 : decode prog_1_method_28_code 1 = .ok (.ifCond .eq 15, 3) := by decide +kernel
theorem d_FF_requireNamed_4 : decode prog_1_method_28_code 4 = .ok (.aload_n 0, 1) := by decide +kernel
theorem d_FF_requireNamed_5 : decode prog_1_method_28_code 5 = .ok (.getfield 63, 3) := by decide +kernel
theorem d_FF_requireNamed_8 : decode prog_1_method_28_code 8 = .ok (.iload_n 1, 1) := by decide +kernel
theorem d_FF_requireNamed_9 : decode prog_1_method_28_code 9 = .ok (.invokevirtual 240, 3) := by decide +kernel
theorem d_FF_requireNamed_12 : decode prog_1_method_28_code 12 = .ok (.iconst 2, 1) := by decide +kernel
theorem d_FF_requireNamed_13 : decode prog_1_method_28_code 13 = .ok (.if_icmp .eq 14, 3) := by decide +kernel
theorem d_FF_requireNamed_16 : decode prog_1_method_28_code 16 = .ok (.new 98, 3) := by decide +kernel
theorem d_FF_requireNamed_19 : decode prog_1_method_28_code 19 = .ok (.dup, 1) := by decide +kernel
theorem d_FF_requireNamed_20 : decode prog_1_method_28_code 20 = .ok (.ldc_w 284, 3) := by decide +kernel
theorem d_FF_requireNamed_23 : decode prog_1_method_28_code 23 = .ok (.invokespecial 102, 3) := by decide +kernel
theorem d_FF_requireNamed_26 : decode prog_1_method_28_code 26 = .ok (.athrow, 1) := by decide +kernel
theorem d_FF_requireNamed_27 : decode prog_1_method_28_code 27 = .ok (.return_, 1) := by decide +kernel
set_option maxHeartbeats 4000000 in
set_option maxRecDepth 100000 in
theorem m_FF_requireNamed {l : Launch} {D : va_G} {ad : Nat → Nat} {ca : Nat → ClassId} {FU : Nat} {x1 : Int32} {x2 : Int32} {g : St} {q : Nat × Int32 × St} (h : FF_requireNamed FU x1 x2 g = some q) : CX l ⟨"FlashFiles", "requireNamed", "(IZ)V"⟩ prog_1_method_28_code 3 6 none D (tyF ca) (wF ad ca g) [.ref (ad 0), .int x1, .int x2] q.1 none (wF ad ca q.2.2) := by
  refine CX.fx (by decide) (Nat.le_of_ble_eq_true rfl) ?_
  intro p e s m below meth c A ls X hE hZ htr hP hD hl
  have hl : lv_has ls 3 [(0, .ref (ad 0)), (1, .int x1), (2, .int x2)] := hl
  have hS : va_S A s.heap s.heap [] := va_S.rf
  have hx := X.1
  have hb := X.2.1
  unfold FF_requireNamed at h
  refine lv_iload_n hx hb d_FF_requireNamed_0 rfl (lv_at hl 2 rfl) ?_
  refine lv_if_eq (tgt := 16) hx hb d_FF_requireNamed_1 (by decide) (fun hc => ?_) (fun hc => ?_)
  · have h := if_t hc h
    cases h
    exact xx_throwW (k := 1) (ik := 98) (is := 284) (ic := 102) (text := "no such directory or name") (names := exN) X hE hZ htr (by decide) hP hD hS (by decide) (by decide) at_1_102 cl_98 in_E1 (List.mem_of_getElem? (i := 7) rfl) hl.1 d_FF_requireNamed_16 d_FF_requireNamed_19 d_FF_requireNamed_20 d_FF_requireNamed_23 d_FF_requireNamed_26 ⟨⟨by decide, Nat.le_of_ble_eq_true rfl⟩, by decide, by decide⟩
  · have h := if_f hc h
    refine lv_aload_n hx hb d_FF_requireNamed_4 rfl (lv_at hl 0 rfl) ?_
    refine gF_ff_tree X hP d_FF_requireNamed_5 ?_
    refine lv_iload_n hx hb d_FF_requireNamed_8 rfl (lv_at hl 1 rfl) ?_
    obtain ⟨v1, e1, h⟩ := bd_some h
    refine fx_i X (fx_runV (As := [.int x1]) X (m_Tre_kindOf e1 _) hP hD kv_FF_240 ⟨Nat.le_of_ble_eq_true rfl, Nat.le_of_ble_eq_true rfl⟩ 7 rfl rfl rfl hl.1 rfl (Nat.le_of_ble_eq_true rfl) d_FF_requireNamed_9) hD hS (fun H locs hP hD hS => ?_)
    refine lv_iconst (v := 2) hx hb d_FF_requireNamed_12 (by decide) ?_
    refine lv_icmp_eq (tgt := 27) hx hb d_FF_requireNamed_13 (by decide) (fun hc => ?_) (fun hc => ?_)
    · have h := if_t hc h
      cases h
      exact xx_vret X hP hD hS d_FF_requireNamed_27
    · have h := if_f hc h
      cases h
      exact xx_throwW (k := 1) (ik := 98) (is := 284) (ic := 102) (text := "no such directory or name") (names := exN) X hE hZ htr (by decide) hP hD hS (by decide) (by decide) at_1_102 cl_98 in_E1 (List.mem_of_getElem? (i := 7) rfl) hl.1 d_FF_requireNamed_16 d_FF_requireNamed_19 d_FF_requireNamed_20 d_FF_requireNamed_23 d_FF_requireNamed_26 ⟨⟨by decide, Nat.le_of_ble_eq_true rfl⟩, by decide, by decide⟩
theorem d_FF_requireNewName_0 : decode prog_1_method_29_code 0 = .ok (.aload_n 0, 1) := by decide +kernel
theorem d_FF_requireNewName_1 : decode prog_1_method_29_code 1 = .ok (.iload_n 1, 1) := by decide +kernel
theorem d_FF_requireNewName_2 : decode prog_1_method_29_code 2 = .ok (.iload_n 2, 1) := by decide +kernel
theorem d_FF_requireNewName_3 : decode prog_1_method_29_code 3 = .ok (.invokevirtual 159, 3) := by decide +kernel
theorem d_FF_requireNewName_6 : decode prog_1_method_29_code 6 = .ok (.aload_n 0, 1) := by decide +kernel
theorem d_FF_requireNewName_7 : decode prog_1_method_29_code 7 = .ok (.getfield 63, 3) := by decide +kernel
theorem d_FF_requireNewName_10 : decode prog_1_method_29_code 10 = .ok (.iload_n 1, 1) := by decide +kernel
theorem d_FF_requireNewName_11 : decode prog_1_method_29_code 11 = .ok (.aload_n 0, 1) := by decide +kernel
theorem d_FF_requireNewName_12 : decode prog_1_method_29_code 12 = .ok (.getfield 21, 3) := by decide +kernel
theorem d_FF_requireNewName_15 : decode prog_1_method_29_code 15 = .ok (.invokevirtual 187, 3) := by decide +kernel
theorem d_FF_requireNewName_18 : decode prog_1_method_29_code 18 = .ok (.ifCond .ge 17, 3) := by decide +kernel
theorem d_FF_requireNewName_21 : decode prog_1_method_29_code 21 = .ok (.aload_n 0, 1) := by decide +kernel
theorem d_FF_requireNewName_22 : decode prog_1_method_29_code 22 = .ok (.getfield 63, 3) := by decide +kernel
theorem d_FF_requireNewName_25 : decode prog_1_method_29_code 25 = .ok (.iload_n 1, 1) := by decide +kernel
theorem d_FF_requireNewName_26 : decode prog_1_method_29_code 26 = .ok (.iconst 1, 1) := by decide +kernel
theorem d_FF_requireNewName_27 : decode prog_1_method_29_code 27 = .ok (.invokevirtual 175, 3) := by decide +kernel
theorem d_FF_requireNewName_30 : decode prog_1_method_29_code 30 = .ok (.bipush 48, 2) := by decide +kernel
theorem d_FF_requireNewName_32 : decode prog_1_method_29_code 32 = .ok (.if_icmp .lt 14, 3) := by decide +kernel
theorem d_FF_requireNewName_35 : decode prog_1_method_29_code 35 = .ok (.new 119, 3) := by decide +kernel
theorem d_FF_requireNewName_38 : decode prog_1_method_29_code 38 = .ok (.dup, 1) := by decide +kernel
theorem d_FF_requireNewName_39 : decode prog_1_method_29_code 39 = .ok (.ldc_w 286, 3) := by decide +kernel
theorem d_FF_requireNewName_42 : decode prog_1_method_29_code 42 = .ok (.invokespecial 123, 3) := by decide +kernel
theorem d_FF_requireNewName_45 : decode prog_1_method_29_code 45 = .ok (.athrow, 1) := by decide +kernel
theorem d_FF_requireNewName_46 : decode prog_1_method_29_code 46 = .ok (.return_, 1) := by decide +kernel
set_option maxHeartbeats 4000000 in
set_option maxRecDepth 100000 in
theorem m_FF_requireNewName {l : Launch} {D : va_G} {ad : Nat → Nat} {ca : Nat → ClassId} {FU : Nat} {x1 : Int32} {x2 : Int32} {g : St} {q : Nat × Int32 × St} (h : FF_requireNewName FU x1 x2 g = some q) : CX l ⟨"FlashFiles", "requireNewName", "(IZ)V"⟩ prog_1_method_29_code 3 7 none D (tyF ca) (wF ad ca g) [.ref (ad 0), .int x1, .int x2] q.1 none (wF ad ca q.2.2) := by
  refine CX.fx (by decide) (Nat.le_of_ble_eq_true rfl) ?_
  intro p e s m below meth c A ls X hE hZ htr hP hD hl
  have hl : lv_has ls 3 [(0, .ref (ad 0)), (1, .int x1), (2, .int x2)] := hl
  have hS : va_S A s.heap s.heap [] := va_S.rf
  have hx := X.1
  have hb := X.2.1
  unfold FF_requireNewName at h
  refine lv_aload_n hx hb d_FF_requireNewName_0 rfl (lv_at hl 0 rfl) ?_
  refine lv_iload_n hx hb d_FF_requireNewName_1 rfl (lv_at hl 1 rfl) ?_
  refine lv_iload_n hx hb d_FF_requireNewName_2 rfl (lv_at hl 2 rfl) ?_
  obtain ⟨p1, e1, h⟩ := bd_some h
  refine xx_V (As := [.int x1, .int x2]) X (m_FF_requireNamed e1) hZ htr hP hD hS kv_FF_159 ⟨⟨Nat.le_of_ble_eq_true rfl, Nat.le_of_ble_eq_true rfl⟩, Nat.le_of_ble_eq_true rfl, Nat.le_of_ble_eq_true rfl⟩ 0 rfl rfl rfl hl.1 rfl (Nat.le_of_ble_eq_true rfl) d_FF_requireNewName_3 (fun hk H locs hP hD hS => ?_) (fun hk H locs q9 ce hP hD hS hce hcv hcl => ?_)
  · have h := if_t hk h
    refine W.eq (g2 := F0 m 6 ls []) rfl ?_
    refine lv_aload_n hx hb d_FF_requireNewName_6 rfl (lv_at hl 0 rfl) ?_
    refine gF_ff_tree X hP d_FF_requireNewName_7 ?_
    refine lv_iload_n hx hb d_FF_requireNewName_10 rfl (lv_at hl 1 rfl) ?_
    refine lv_aload_n hx hb d_FF_requireNewName_11 rfl (lv_at hl 0 rfl) ?_
    refine gF_ff_first X hP d_FF_requireNewName_12 ?_
    obtain ⟨v2, e1, h⟩ := bd_some h
    refine fx_i X (fx_runV (As := [.int x1, .ref (ad 13)]) X (m_Tre_slotOf_2 e1 _) hP hD kv_FF_187 ⟨Nat.le_of_ble_eq_true rfl, Nat.le_of_ble_eq_true rfl⟩ 7 rfl rfl rfl hl.1 rfl (Nat.le_of_ble_eq_true rfl) d_FF_requireNewName_15) hD hS (fun H locs hP hD hS => ?_)
    refine lv_if_ge (tgt := 35) hx hb d_FF_requireNewName_18 (by decide) (fun hc => ?_) (fun hc => ?_)
    · have h := if_t hc h
      cases h
      exact xx_throwW (k := 2) (ik := 119) (is := 286) (ic := 123) (text := "the name is there, or the directory is full") (names := exN) X hE hZ htr (by decide) hP hD hS (by decide) (by decide) at_2_123 cl_119 in_E2 (List.mem_of_getElem? (i := 8) rfl) hl.1 d_FF_requireNewName_35 d_FF_requireNewName_38 d_FF_requireNewName_39 d_FF_requireNewName_42 d_FF_requireNewName_45 ⟨⟨by decide, Nat.le_of_ble_eq_true rfl⟩, by decide, by decide⟩
    · have h := if_f hc h
      refine lv_aload_n hx hb d_FF_requireNewName_21 rfl (lv_at hl 0 rfl) ?_
      refine gF_ff_tree X hP d_FF_requireNewName_22 ?_
      refine lv_iload_n hx hb d_FF_requireNewName_25 rfl (lv_at hl 1 rfl) ?_
      refine lv_iconst (v := 1) hx hb d_FF_requireNewName_26 (by decide) ?_
      obtain ⟨v3, e1, h⟩ := bd_some h
      refine fx_i X (fx_runV (As := [.int x1, .int (1 : Int32)]) X (m_Tre_wordOf e1 _) hP hD kv_FF_175 ⟨Nat.le_of_ble_eq_true rfl, Nat.le_of_ble_eq_true rfl⟩ 7 rfl rfl rfl hl.1 rfl (Nat.le_of_ble_eq_true rfl) d_FF_requireNewName_27) hD hS (fun H locs hP hD hS => ?_)
      refine lv_bipush (v := 48) hx hb d_FF_requireNewName_30 (by decide) ?_
      refine lv_icmp_lt (tgt := 46) hx hb d_FF_requireNewName_32 (by decide) (fun hc => ?_) (fun hc => ?_)
      · have h := if_t hc h
        cases h
        exact xx_vret X hP hD hS d_FF_requireNewName_46
      · have h := if_f hc h
        cases h
        exact xx_throwW (k := 2) (ik := 119) (is := 286) (ic := 123) (text := "the name is there, or the directory is full") (names := exN) X hE hZ htr (by decide) hP hD hS (by decide) (by decide) at_2_123 cl_119 in_E2 (List.mem_of_getElem? (i := 8) rfl) hl.1 d_FF_requireNewName_35 d_FF_requireNewName_38 d_FF_requireNewName_39 d_FF_requireNewName_42 d_FF_requireNewName_45 ⟨⟨by decide, Nat.le_of_ble_eq_true rfl⟩, by decide, by decide⟩
  · have h := if_f hk h
    cases h
    exact xx_leave X hE hk hP hD hS hce hcv hcl (Nat.le_refl _) (Nat.le_refl _)
theorem d_FF_losePower_0 : decode prog_1_method_38_code 0 = .ok (.aload_n 0, 1) := by decide +kernel
theorem d_FF_losePower_1 : decode prog_1_method_38_code 1 = .ok (.iconst 1, 1) := by decide +kernel
theorem d_FF_losePower_2 : decode prog_1_method_38_code 2 = .ok (.putfield 88, 3) := by decide +kernel
theorem d_FF_losePower_5 : decode prog_1_method_38_code 5 = .ok (.aload_n 0, 1) := by decide +kernel
theorem d_FF_losePower_6 : decode prog_1_method_38_code 6 = .ok (.iconst (-1), 1) := by decide +kernel
theorem d_FF_losePower_7 : decode prog_1_method_38_code 7 = .ok (.putfield 92, 3) := by decide +kernel
theorem d_FF_losePower_10 : decode prog_1_method_38_code 10 = .ok (.aload_n 0, 1) := by decide +kernel
theorem d_FF_losePower_11 : decode prog_1_method_38_code 11 = .ok (.getfield 38, 3) := by decide +kernel
theorem d_FF_losePower_14 : decode prog_1_method_38_code 14 = .ok (.invokevirtual 328, 3) := by decide +kernel
theorem d_FF_losePower_17 : decode prog_1_method_38_code 17 = .ok (.aload_n 0, 1) := by decide +kernel
theorem d_FF_losePower_18 : decode prog_1_method_38_code 18 = .ok (.getfield 47, 3) := by decide +kernel
theorem d_FF_losePower_21 : decode prog_1_method_38_code 21 = .ok (.invokevirtual 331, 3) := by decide +kernel
theorem d_FF_losePower_24 : decode prog_1_method_38_code 24 = .ok (.aload_n 0, 1) := by decide +kernel
theorem d_FF_losePower_25 : decode prog_1_method_38_code 25 = .ok (.getfield 75, 3) := by decide +kernel
theorem d_FF_losePower_28 : decode prog_1_method_38_code 28 = .ok (.invokevirtual 332, 3) := by decide +kernel
theorem d_FF_losePower_31 : decode prog_1_method_38_code 31 = .ok (.return_, 1) := by decide +kernel
set_option maxHeartbeats 4000000 in
set_option maxRecDepth 100000 in
theorem m_FF_losePower {l : Launch} {D : va_G} {ad : Nat → Nat} {ca : Nat → ClassId} {FU : Nat} {g : St} {q : St} (h : FF_losePower FU  g = some q) : CV l ⟨"FlashFiles", "losePower", "()V"⟩ prog_1_method_38_code 1 3 D (tyF ca) (wF ad ca g) [.ref (ad 0)] (wF ad ca q) := by
  intro sz
  refine Met.fx (Qc := fun A => fxQv D (tyF ca) A (wF ad ca q)) (by decide) (Nat.le_of_ble_eq_true rfl) ?_
  intro p e s m below meth c A ls X hP hD hl
  have hl : lv_has ls 1 [(0, .ref (ad 0))] := hl
  have hS : va_S A s.heap s.heap [] := va_S.rf
  have hx := X.1
  have hb := X.2.1
  unfold FF_losePower at h
  refine lv_aload_n hx hb d_FF_losePower_0 rfl (lv_at hl 0 rfl) ?_
  refine lv_iconst (v := 1) hx hb d_FF_losePower_1 (by decide) ?_
  obtain ⟨g1, e1, h⟩ := nx_some h
  refine uF_ff_state X hP hD hS e1 d_FF_losePower_2 (fun H locs hP hD hS => ?_)
  refine lv_aload_n hx hb d_FF_losePower_5 rfl (lv_at hl 0 rfl) ?_
  refine lv_iconst (v := -1) hx hb d_FF_losePower_6 (by decide) ?_
  obtain ⟨g2, e1, h⟩ := nx_some h
  refine uF_ff_cutAfter X hP hD hS e1 d_FF_losePower_7 (fun H locs hP hD hS => ?_)
  refine lv_aload_n hx hb d_FF_losePower_10 rfl (lv_at hl 0 rfl) ?_
  refine gF_ff_table X hP d_FF_losePower_11 ?_
  obtain ⟨p3, e1, h⟩ := bd_some h
  refine fx_v X (fx_runV (As := []) X (m_Tab_forget e1 _) hP hD kv_FF_328 ⟨Nat.le_of_ble_eq_true rfl, Nat.le_of_ble_eq_true rfl⟩ 4 rfl rfl rfl hl.1 rfl (Nat.le_of_ble_eq_true rfl) d_FF_losePower_14) hD hS (fun H locs hP hD hS => ?_)
  refine lv_aload_n hx hb d_FF_losePower_17 rfl (lv_at hl 0 rfl) ?_
  refine gF_ff_log X hP d_FF_losePower_18 ?_
  obtain ⟨p4, e1, h⟩ := bd_some h
  refine fx_v X (fx_runV (As := []) X (m_Log_forget e1 _) hP hD kv_FF_331 ⟨Nat.le_of_ble_eq_true rfl, Nat.le_of_ble_eq_true rfl⟩ 5 rfl rfl rfl hl.1 rfl (Nat.le_of_ble_eq_true rfl) d_FF_losePower_21) hD hS (fun H locs hP hD hS => ?_)
  refine lv_aload_n hx hb d_FF_losePower_24 rfl (lv_at hl 0 rfl) ?_
  refine gF_ff_checkpoints X hP d_FF_losePower_25 ?_
  obtain ⟨p5, e1, h⟩ := bd_some h
  refine fx_v X (fx_runV (As := []) X (m_Chk_forget e1 _) hP hD kv_FF_332 ⟨Nat.le_of_ble_eq_true rfl, Nat.le_of_ble_eq_true rfl⟩ 9 rfl rfl rfl hl.1 rfl (Nat.le_of_ble_eq_true rfl) d_FF_losePower_28) hD hS (fun H locs hP hD hS => ?_)
  cases h
  exact fx_vret X hP hD hS d_FF_losePower_31
theorem d_FF_failAtCut_0 : decode prog_1_method_37_code 0 = .ok (.aload_n 0, 1) := by decide +kernel
theorem d_FF_failAtCut_1 : decode prog_1_method_37_code 1 = .ok (.getfield 92, 3) := by decide +kernel
theorem d_FF_failAtCut_4 : decode prog_1_method_37_code 4 = .ok (.iconst (-1), 1) := by decide +kernel
theorem d_FF_failAtCut_5 : decode prog_1_method_37_code 5 = .ok (.if_icmp .ne 4, 3) := by decide +kernel
theorem d_FF_failAtCut_8 : decode prog_1_method_37_code 8 = .ok (.return_, 1) := by decide +kernel
theorem d_FF_failAtCut_9 : decode prog_1_method_37_code 9 = .ok (.iload_n 1, 1) := by decide +kernel
theorem d_FF_failAtCut_10 : decode prog_1_method_37_code 10 = .ok (.ifCond .eq 14, 3) := by decide +kernel
theorem d_FF_failAtCut_13 : decode prog_1_method_37_code 13 = .ok (.aload_n 0, 1) := by decide +kernel
theorem d_FF_failAtCut_14 : decode prog_1_method_37_code 14 = .ok (.getfield 75, 3) := by decide +kernel
theorem d_FF_failAtCut_17 : decode prog_1_method_37_code 17 = .ok (.aload_n 0, 1) := by decide +kernel
theorem d_FF_failAtCut_18 : decode prog_1_method_37_code 18 = .ok (.getfield 92, 3) := by decide +kernel
theorem d_FF_failAtCut_21 : decode prog_1_method_37_code 21 = .ok (.invokevirtual 320, 3) := by decide +kernel
theorem d_FF_failAtCut_24 : decode prog_1_method_37_code 24 = .ok (.aload_n 0, 1) := by decide +kernel
theorem d_FF_failAtCut_25 : decode prog_1_method_37_code 25 = .ok (.invokevirtual 266, 3) := by decide +kernel
theorem d_FF_failAtCut_28 : decode prog_1_method_37_code 28 = .ok (.new 323, 3) := by decide +kernel
theorem d_FF_failAtCut_31 : decode prog_1_method_37_code 31 = .ok (.dup, 1) := by decide +kernel
theorem d_FF_failAtCut_32 : decode prog_1_method_37_code 32 = .ok (.ldc_w 325, 3) := by decide +kernel
theorem d_FF_failAtCut_35 : decode prog_1_method_37_code 35 = .ok (.invokespecial 327, 3) := by decide +kernel
theorem d_FF_failAtCut_38 : decode prog_1_method_37_code 38 = .ok (.athrow, 1) := by decide +kernel
set_option maxHeartbeats 4000000 in
set_option maxRecDepth 100000 in
theorem v_FF_failAtCut_24 {p : Program} {l : Launch} {e : Env} {s : State} {m : MethodId} {args : Array Value} {below : List Frame} {meth : Method} {c : Code} {D : va_G} {ad : Nat → Nat} {ca : Nat → ClassId} {A : Nat → Prop} {FU : Nat} {q : Nat × Int32 × St} (X : FX p s m meth c prog_1_method_37_code 2 none "FlashFiles" D (tyF ca) A) (hE : ∀ x ∈ c.exceptionTable.toList, False) (hZ : ZS A s) (htr : l.stackTraces = false)  {g : St} {H : Heap} {locs : List Loc} {ls : Array Slot} (hP : va_P D cls (wF ad ca g) H) (hD : va_D A (wF ad ca g)) (hS : va_S A s.heap H locs) (hl : lv_has ls 2 [(0, .ref (ad 0))]) (h : FF_failAtCut_b24 FU g = some q) : W p l e (rmX 7) s m args below meth c H locs 0 0 (XQ below D (tyF ca) A (wF ad ca q.2.2) q.1 none s) (F0 m 24 ls []) := by
  have hx := X.1
  have hb := X.2.1
  unfold FF_failAtCut_b24 at h
  refine lv_aload_n hx hb d_FF_failAtCut_24 rfl (lv_at hl 0 rfl) ?_
  obtain ⟨p1, e1, h⟩ := bd_some h
  refine fx_v X (fx_runV (As := []) X (m_FF_losePower e1 _) hP hD kv_FF_266 ⟨Nat.le_of_ble_eq_true rfl, Nat.le_of_ble_eq_true rfl⟩ 0 rfl rfl rfl hl.1 rfl (Nat.le_of_ble_eq_true rfl) d_FF_failAtCut_25) hD hS (fun H locs hP hD hS => ?_)
  cases h
  exact xx_throwW (k := 3) (ik := 323) (is := 325) (ic := 327) (text := "the power failed") (names := exN) X hE hZ htr (by decide) hP hD hS (by decide) (by decide) at_3_327 cl_323 in_E3 (List.mem_of_getElem? (i := 10) rfl) hl.1 d_FF_failAtCut_28 d_FF_failAtCut_31 d_FF_failAtCut_32 d_FF_failAtCut_35 d_FF_failAtCut_38 ⟨⟨by decide, Nat.le_of_ble_eq_true rfl⟩, by decide, by decide⟩
set_option maxHeartbeats 4000000 in
set_option maxRecDepth 100000 in
theorem m_FF_failAtCut {l : Launch} {D : va_G} {ad : Nat → Nat} {ca : Nat → ClassId} {FU : Nat} {x1 : Int32} {g : St} {q : Nat × Int32 × St} (h : FF_failAtCut FU x1 g = some q) : CX l ⟨"FlashFiles", "failAtCut", "(Z)V"⟩ prog_1_method_37_code 2 7 none D (tyF ca) (wF ad ca g) [.ref (ad 0), .int x1] q.1 none (wF ad ca q.2.2) := by
  refine CX.fx (by decide) (Nat.le_of_ble_eq_true rfl) ?_
  intro p e s m below meth c A ls X hE hZ htr hP hD hl
  have hl : lv_has ls 2 [(0, .ref (ad 0)), (1, .int x1)] := hl
  have hS : va_S A s.heap s.heap [] := va_S.rf
  have hx := X.1
  have hb := X.2.1
  unfold FF_failAtCut at h
  refine lv_aload_n hx hb d_FF_failAtCut_0 rfl (lv_at hl 0 rfl) ?_
  refine gF_ff_cutAfter X hP d_FF_failAtCut_1 ?_
  refine lv_iconst (v := -1) hx hb d_FF_failAtCut_4 (by decide) ?_
  refine lv_icmp_ne (tgt := 9) hx hb d_FF_failAtCut_5 (by decide) (fun hc => ?_) (fun hc => ?_)
  · have h := if_f hc h
    refine lv_iload_n hx hb d_FF_failAtCut_9 rfl (lv_at hl 1 rfl) ?_
    refine lv_if_eq (tgt := 24) hx hb d_FF_failAtCut_10 (by decide) (fun hc => ?_) (fun hc => ?_)
    · have h := if_t hc h
      exact v_FF_failAtCut_24 X  hE hZ htr hP hD hS (lv_sub hl [0] rfl) h
    · have h := if_f hc h
      refine lv_aload_n hx hb d_FF_failAtCut_13 rfl (lv_at hl 0 rfl) ?_
      refine gF_ff_checkpoints X hP d_FF_failAtCut_14 ?_
      refine lv_aload_n hx hb d_FF_failAtCut_17 rfl (lv_at hl 0 rfl) ?_
      refine gF_ff_cutAfter X hP d_FF_failAtCut_18 ?_
      obtain ⟨p2, e1, h⟩ := bd_some h
      refine fx_v X (fx_runV (As := [.int (g.1 3)]) X (m_Chk_storePart e1 _) hP hD kv_FF_320 ⟨Nat.le_of_ble_eq_true rfl, Nat.le_of_ble_eq_true rfl⟩ 9 rfl rfl rfl hl.1 rfl (Nat.le_of_ble_eq_true rfl) d_FF_failAtCut_21) hD hS (fun H locs hP hD hS => ?_)
      exact v_FF_failAtCut_24 X  hE hZ htr hP hD hS (lv_sub hl [0] rfl) h
  · have h := if_t hc h
    cases h
    exact xx_vret X hP hD hS d_FF_failAtCut_8
theorem d_FF_reserve_0 : decode prog_1_method_36_code 0 = .ok (.aload_n 0, 1) := by decide +kernel
theorem d_FF_reserve_1 : decode prog_1_method_36_code 1 = .ok (.getfield 75, 3) := by decide +kernel
theorem d_FF_reserve_4 : decode prog_1_method_36_code 4 = .ok (.iload_n 1, 1) := by decide +kernel
theorem d_FF_reserve_5 : decode prog_1_method_36_code 5 = .ok (.invokevirtual 312, 3) := by decide +kernel
theorem d_FF_reserve_8 : decode prog_1_method_36_code 8 = .ok (.ifCond .ne 37, 3) := by decide +kernel
theorem d_FF_reserve_11 : decode prog_1_method_36_code 11 = .ok (.aload_n 0, 1) := by decide +kernel
theorem d_FF_reserve_12 : decode prog_1_method_36_code 12 = .ok (.iconst 1, 1) := by decide +kernel
theorem d_FF_reserve_13 : decode prog_1_method_36_code 13 = .ok (.invokevirtual 230, 3) := by decide +kernel
theorem d_FF_reserve_16 : decode prog_1_method_36_code 16 = .ok (.aload_n 0, 1) := by decide +kernel
theorem d_FF_reserve_17 : decode prog_1_method_36_code 17 = .ok (.getfield 75, 3) := by decide +kernel
theorem d_FF_reserve_20 : decode prog_1_method_36_code 20 = .ok (.invokevirtual 112, 3) := by decide +kernel
theorem d_FF_reserve_23 : decode prog_1_method_36_code 23 = .ok (.aload_n 0, 1) := by decide +kernel
theorem d_FF_reserve_24 : decode prog_1_method_36_code 24 = .ok (.getfield 75, 3) := by decide +kernel
theorem d_FF_reserve_27 : decode prog_1_method_36_code 27 = .ok (.iload_n 1, 1) := by decide +kernel
theorem d_FF_reserve_28 : decode prog_1_method_36_code 28 = .ok (.invokevirtual 312, 3) := by decide +kernel
theorem d_FF_reserve_31 : decode prog_1_method_36_code 31 = .ok (.ifCond .ne 14, 3) := by decide +kernel
theorem d_FF_reserve_34 : decode prog_1_method_36_code 34 = .ok (.new 119, 3) := by decide +kernel
theorem d_FF_reserve_37 : decode prog_1_method_36_code 37 = .ok (.dup, 1) := by decide +kernel
theorem d_FF_reserve_38 : decode prog_1_method_36_code 38 = .ok (.ldc_w 315, 3) := by decide +kernel
theorem d_FF_reserve_41 : decode prog_1_method_36_code 41 = .ok (.invokespecial 123, 3) := by decide +kernel
theorem d_FF_reserve_44 : decode prog_1_method_36_code 44 = .ok (.athrow, 1) := by decide +kernel
theorem d_FF_reserve_45 : decode prog_1_method_36_code 45 = .ok (.aload_n 0, 1) := by decide +kernel
theorem d_FF_reserve_46 : decode prog_1_method_36_code 46 = .ok (.getfield 75, 3) := by decide +kernel
theorem d_FF_reserve_49 : decode prog_1_method_36_code 49 = .ok (.iload_n 1, 1) := by decide +kernel
theorem d_FF_reserve_50 : decode prog_1_method_36_code 50 = .ok (.invokevirtual 317, 3) := by decide +kernel
theorem d_FF_reserve_53 : decode prog_1_method_36_code 53 = .ok (.return_, 1) := by decide +kernel
set_option maxHeartbeats 4000000 in
set_option maxRecDepth 100000 in
theorem v_FF_reserve_45 {p : Program} {l : Launch} {e : Env} {s : State} {m : MethodId} {args : Array Value} {below : List Frame} {meth : Method} {c : Code} {D : va_G} {ad : Nat → Nat} {ca : Nat → ClassId} {A : Nat → Prop} {FU : Nat} {q : Nat × Int32 × St} (X : FX p s m meth c prog_1_method_36_code 2 none "FlashFiles" D (tyF ca) A) (hE : ∀ x ∈ c.exceptionTable.toList, False) (hZ : ZS A s) (htr : l.stackTraces = false) {y1 : Int32} {g : St} {H : Heap} {locs : List Loc} {ls : Array Slot} (hP : va_P D cls (wF ad ca g) H) (hD : va_D A (wF ad ca g)) (hS : va_S A s.heap H locs) (hl : lv_has ls 2 [(0, .ref (ad 0)), (1, .int y1)]) (h : FF_reserve_b45 FU y1 g = some q) : W p l e (rmX 9) s m args below meth c H locs 0 0 (XQ below D (tyF ca) A (wF ad ca q.2.2) q.1 none s) (F0 m 45 ls []) := by
  have hx := X.1
  have hb := X.2.1
  unfold FF_reserve_b45 at h
  refine lv_aload_n hx hb d_FF_reserve_45 rfl (lv_at hl 0 rfl) ?_
  refine gF_ff_checkpoints X hP d_FF_reserve_46 ?_
  refine lv_iload_n hx hb d_FF_reserve_49 rfl (lv_at hl 1 rfl) ?_
  obtain ⟨p1, e1, h⟩ := bd_some h
  refine fx_v X (fx_runV (As := [.int y1]) X (m_Chk_addFresh e1 _) hP hD kv_FF_317 ⟨Nat.le_of_ble_eq_true rfl, Nat.le_of_ble_eq_true rfl⟩ 9 rfl rfl rfl hl.1 rfl (Nat.le_of_ble_eq_true rfl) d_FF_reserve_50) hD hS (fun H locs hP hD hS => ?_)
  cases h
  exact xx_vret X hP hD hS d_FF_reserve_53
set_option maxHeartbeats 4000000 in
set_option maxRecDepth 100000 in
theorem m_FF_reserve {l : Launch} {D : va_G} {ad : Nat → Nat} {ca : Nat → ClassId} {FU : Nat} {x1 : Int32} {g : St} {q : Nat × Int32 × St} (h : FF_reserve FU x1 g = some q) : CX l ⟨"FlashFiles", "reserve", "(I)V"⟩ prog_1_method_36_code 2 9 none D (tyF ca) (wF ad ca g) [.ref (ad 0), .int x1] q.1 none (wF ad ca q.2.2) := by
  refine CX.fx (by decide) (Nat.le_of_ble_eq_true rfl) ?_
  intro p e s m below meth c A ls X hE hZ htr hP hD hl
  have hl : lv_has ls 2 [(0, .ref (ad 0)), (1, .int x1)] := hl
  have hS : va_S A s.heap s.heap [] := va_S.rf
  have hx := X.1
  have hb := X.2.1
  unfold FF_reserve at h
  refine lv_aload_n hx hb d_FF_reserve_0 rfl (lv_at hl 0 rfl) ?_
  refine gF_ff_checkpoints X hP d_FF_reserve_1 ?_
  refine lv_iload_n hx hb d_FF_reserve_4 rfl (lv_at hl 1 rfl) ?_
  obtain ⟨v2, e1, h⟩ := bd_some h
  refine fx_i X (fx_runV (As := [.int x1]) X (m_Chk_fits e1 _) hP hD kv_FF_312 ⟨Nat.le_of_ble_eq_true rfl, Nat.le_of_ble_eq_true rfl⟩ 9 rfl rfl rfl hl.1 rfl (Nat.le_of_ble_eq_true rfl) d_FF_reserve_5) hD hS (fun H locs hP hD hS => ?_)
  refine lv_if_ne (tgt := 45) hx hb d_FF_reserve_8 (by decide) (fun hc => ?_) (fun hc => ?_)
  · have h := if_f hc h
    exact v_FF_reserve_45 X  hE hZ htr hP hD hS (lv_sub hl [0, 1] rfl) h
  · have h := if_t hc h
    refine lv_aload_n hx hb d_FF_reserve_11 rfl (lv_at hl 0 rfl) ?_
    refine lv_iconst (v := 1) hx hb d_FF_reserve_12 (by decide) ?_
    obtain ⟨p3, e1, h⟩ := bd_some h
    refine xx_V (As := [.int (1 : Int32)]) X (m_FF_failAtCut e1) hZ htr hP hD hS kv_FF_230 ⟨⟨Nat.le_of_ble_eq_true rfl, Nat.le_of_ble_eq_true rfl⟩, Nat.le_of_ble_eq_true rfl, Nat.le_of_ble_eq_true rfl⟩ 0 rfl rfl rfl hl.1 rfl (Nat.le_of_ble_eq_true rfl) d_FF_reserve_13 (fun hk H locs hP hD hS => ?_) (fun hk H locs q9 ce hP hD hS hce hcv hcl => ?_)
    · have h := if_t hk h
      refine W.eq (g2 := F0 m 16 ls []) rfl ?_
      refine lv_aload_n hx hb d_FF_reserve_16 rfl (lv_at hl 0 rfl) ?_
      refine gF_ff_checkpoints X hP d_FF_reserve_17 ?_
      obtain ⟨p4, e1, h⟩ := bd_some h
      refine fx_v X (fx_runV (As := []) X (m_Chk_take e1 _) hP hD kv_FF_112 ⟨Nat.le_of_ble_eq_true rfl, Nat.le_of_ble_eq_true rfl⟩ 9 rfl rfl rfl hl.1 rfl (Nat.le_of_ble_eq_true rfl) d_FF_reserve_20) hD hS (fun H locs hP hD hS => ?_)
      refine lv_aload_n hx hb d_FF_reserve_23 rfl (lv_at hl 0 rfl) ?_
      refine gF_ff_checkpoints X hP d_FF_reserve_24 ?_
      refine lv_iload_n hx hb d_FF_reserve_27 rfl (lv_at hl 1 rfl) ?_
      obtain ⟨v5, e1, h⟩ := bd_some h
      refine fx_i X (fx_runV (As := [.int x1]) X (m_Chk_fits e1 _) hP hD kv_FF_312 ⟨Nat.le_of_ble_eq_true rfl, Nat.le_of_ble_eq_true rfl⟩ 9 rfl rfl rfl hl.1 rfl (Nat.le_of_ble_eq_true rfl) d_FF_reserve_28) hD hS (fun H locs hP hD hS => ?_)
      refine lv_if_ne (tgt := 45) hx hb d_FF_reserve_31 (by decide) (fun hc => ?_) (fun hc => ?_)
      · have h := if_f hc h
        exact v_FF_reserve_45 X  hE hZ htr hP hD hS (lv_sub hl [0, 1] rfl) h
      · have h := if_t hc h
        cases h
        exact xx_throwW (k := 2) (ik := 119) (is := 315) (ic := 123) (text := "no room") (names := exN) X hE hZ htr (by decide) hP hD hS (by decide) (by decide) at_2_123 cl_119 in_E2 (List.mem_of_getElem? (i := 11) rfl) hl.1 d_FF_reserve_34 d_FF_reserve_37 d_FF_reserve_38 d_FF_reserve_41 d_FF_reserve_44 ⟨⟨by decide, Nat.le_of_ble_eq_true rfl⟩, by decide, by decide⟩
    · have h := if_f hk h
      cases h
      exact xx_leave X hE hk hP hD hS hce hcv hcl (Nat.le_refl _) (Nat.le_refl _)
theorem d_FF_requirePower_0 : decode prog_1_method_26_code 0 = .ok (.aload_n 0, 1) := by decide +kernel
theorem d_FF_requirePower_1 : decode prog_1_method_26_code 1 = .ok (.getfield 88, 3) := by decide +kernel
theorem d_FF_requirePower_4 : decode prog_1_method_26_code 4 = .ok (.iconst 2, 1) := by decide +kernel
theorem d_FF_requirePower_5 : decode prog_1_method_26_code 5 = .ok (.if_icmp .eq 14, 3) := by decide +kernel
theorem d_FF_requirePower_8 : decode prog_1_method_26_code 8 = .ok (.new 119, 3) := by decide +kernel
theorem d_FF_requirePower_11 : decode prog_1_method_26_code 11 = .ok (.dup, 1) := by decide +kernel
theorem d_FF_requirePower_12 : decode prog_1_method_26_code 12 = .ok (.ldc_w 280, 3) := by decide +kernel
theorem d_FF_requirePower_15 : decode prog_1_method_26_code 15 = .ok (.invokespecial 123, 3) := by decide +kernel
theorem d_FF_requirePower_18 : decode prog_1_method_26_code 18 = .ok (.athrow, 1) := by decide +kernel
theorem d_FF_requirePower_19 : decode prog_1_method_26_code 19 = .ok (.return_, 1) := by decide +kernel
set_option maxHeartbeats 4000000 in
set_option maxRecDepth 100000 in
theorem m_FF_requirePower {l : Launch} {D : va_G} {ad : Nat → Nat} {ca : Nat → ClassId} {FU : Nat} {g : St} {q : Nat × Int32 × St} (h : FF_requirePower FU  g = some q) : CX l ⟨"FlashFiles", "requirePower", "()V"⟩ prog_1_method_26_code 1 6 none D (tyF ca) (wF ad ca g) [.ref (ad 0)] q.1 none (wF ad ca q.2.2) := by
  refine CX.fx (by decide) (Nat.le_of_ble_eq_true rfl) ?_
  intro p e s m below meth c A ls X hE hZ htr hP hD hl
  have hl : lv_has ls 1 [(0, .ref (ad 0))] := hl
  have hS : va_S A s.heap s.heap [] := va_S.rf
  have hx := X.1
  have hb := X.2.1
  unfold FF_requirePower at h
  refine lv_aload_n hx hb d_FF_requirePower_0 rfl (lv_at hl 0 rfl) ?_
  refine gF_ff_state X hP d_FF_requirePower_1 ?_
  refine lv_iconst (v := 2) hx hb d_FF_requirePower_4 (by decide) ?_
  refine lv_icmp_eq (tgt := 19) hx hb d_FF_requirePower_5 (by decide) (fun hc => ?_) (fun hc => ?_)
  · have h := if_t hc h
    cases h
    exact xx_vret X hP hD hS d_FF_requirePower_19
  · have h := if_f hc h
    cases h
    exact xx_throwW (k := 2) (ik := 119) (is := 280) (ic := 123) (text := "no power") (names := exN) X hE hZ htr (by decide) hP hD hS (by decide) (by decide) at_2_123 cl_119 in_E2 (List.mem_of_getElem? (i := 6) rfl) hl.1 d_FF_requirePower_8 d_FF_requirePower_11 d_FF_requirePower_12 d_FF_requirePower_15 d_FF_requirePower_18 ⟨⟨by decide, Nat.le_of_ble_eq_true rfl⟩, by decide, by decide⟩
theorem d_FF_takeName_0 : decode prog_1_method_34_code 0 = .ok (.aload_n 0, 1) := by decide +kernel
theorem d_FF_takeName_1 : decode prog_1_method_34_code 1 = .ok (.invokevirtual 204, 3) := by decide +kernel
theorem d_FF_takeName_4 : decode prog_1_method_34_code 4 = .ok (.aload_n 0, 1) := by decide +kernel
theorem d_FF_takeName_5 : decode prog_1_method_34_code 5 = .ok (.getfield 14, 3) := by decide +kernel
theorem d_FF_takeName_8 : decode prog_1_method_34_code 8 = .ok (.iconst 0, 1) := by decide +kernel
theorem d_FF_takeName_9 : decode prog_1_method_34_code 9 = .ok (.iload_n 1, 1) := by decide +kernel
theorem d_FF_takeName_10 : decode prog_1_method_34_code 10 = .ok (.aload_n 0, 1) := by decide +kernel
theorem d_FF_takeName_11 : decode prog_1_method_34_code 11 = .ok (.getfield 21, 3) := by decide +kernel
theorem d_FF_takeName_14 : decode prog_1_method_34_code 14 = .ok (.invokevirtual 308, 3) := by decide +kernel
theorem d_FF_takeName_17 : decode prog_1_method_34_code 17 = .ok (.istore_n 2, 1) := by decide +kernel
theorem d_FF_takeName_18 : decode prog_1_method_34_code 18 = .ok (.aload_n 0, 1) := by decide +kernel
theorem d_FF_takeName_19 : decode prog_1_method_34_code 19 = .ok (.getfield 14, 3) := by decide +kernel
theorem d_FF_takeName_22 : decode prog_1_method_34_code 22 = .ok (.iconst 0, 1) := by decide +kernel
theorem d_FF_takeName_23 : decode prog_1_method_34_code 23 = .ok (.invokevirtual 127, 3) := by decide +kernel
theorem d_FF_takeName_26 : decode prog_1_method_34_code 26 = .ok (.iload_n 2, 1) := by decide +kernel
theorem d_FF_takeName_27 : decode prog_1_method_34_code 27 = .ok (.ireturn, 1) := by decide +kernel
set_option maxHeartbeats 4000000 in
set_option maxRecDepth 100000 in
theorem m_FF_takeName {l : Launch} {D : va_G} {ad : Nat → Nat} {ca : Nat → ClassId} {FU : Nat} {x1 : Int32} {g : St} {q : Nat × Int32 × St} (h : FF_takeName FU x1 g = some q) : CX l ⟨"FlashFiles", "takeName", "(I)Z"⟩ prog_1_method_34_code 3 7 (some .boolean) D (tyF ca) (wF ad ca g) [.ref (ad 0), .int x1] q.1 (some (.int q.2.1)) (wF ad ca q.2.2) := by
  refine CX.fx (by decide) (Nat.le_of_ble_eq_true rfl) ?_
  intro p e s m below meth c A ls X hE hZ htr hP hD hl
  have hl : lv_has ls 3 [(0, .ref (ad 0)), (1, .int x1)] := hl
  have hS : va_S A s.heap s.heap [] := va_S.rf
  have hx := X.1
  have hb := X.2.1
  unfold FF_takeName at h
  refine lv_aload_n hx hb d_FF_takeName_0 rfl (lv_at hl 0 rfl) ?_
  obtain ⟨p1, e1, h⟩ := bd_some h
  refine xx_V (As := []) X (m_FF_requirePower e1) hZ htr hP hD hS kv_FF_204 ⟨⟨Nat.le_of_ble_eq_true rfl, Nat.le_of_ble_eq_true rfl⟩, Nat.le_of_ble_eq_true rfl, Nat.le_of_ble_eq_true rfl⟩ 0 rfl rfl rfl hl.1 rfl (Nat.le_of_ble_eq_true rfl) d_FF_takeName_1 (fun hk H locs hP hD hS => ?_) (fun hk H locs q9 ce hP hD hS hce hcv hcl => ?_)
  · have h := if_t hk h
    refine W.eq (g2 := F0 m 4 ls []) rfl ?_
    refine lv_aload_n hx hb d_FF_takeName_4 rfl (lv_at hl 0 rfl) ?_
    refine gF_ff_onTape X hP d_FF_takeName_5 ?_
    refine lv_iconst (v := 0) hx hb d_FF_takeName_8 (by decide) ?_
    refine lv_iload_n hx hb d_FF_takeName_9 rfl (lv_at hl 1 rfl) ?_
    refine lv_aload_n hx hb d_FF_takeName_10 rfl (lv_at hl 0 rfl) ?_
    refine gF_ff_first X hP d_FF_takeName_11 ?_
    obtain ⟨p2, e1, h⟩ := bd_some h
    refine fx_i X (fx_runV (As := [.int (0 : Int32), .int x1, .ref (ad 13)]) X (m_Row_packName_0_2 e1 _) hP hD kv_FF_308 ⟨Nat.le_of_ble_eq_true rfl, Nat.le_of_ble_eq_true rfl⟩ 1 rfl rfl rfl hl.1 rfl (Nat.le_of_ble_eq_true rfl) d_FF_takeName_14) hD hS (fun H locs hP hD hS => ?_)
    refine lv_istore_n hx hb d_FF_takeName_17 rfl hl (by decide) rfl (fun ls hl => ?_)
    have hl : lv_has ls 3 [(2, .int p2.1), (0, .ref (ad 0)), (1, .int x1)] := hl
    refine lv_aload_n hx hb d_FF_takeName_18 rfl (lv_at hl 1 rfl) ?_
    refine gF_ff_onTape X hP d_FF_takeName_19 ?_
    refine lv_iconst (v := 0) hx hb d_FF_takeName_22 (by decide) ?_
    obtain ⟨p3, e1, h⟩ := bd_some h
    refine fx_v X (fx_runV (As := [.int (0 : Int32)]) X (m_Row_setLength_0 e1 _) hP hD kv_FF_127 ⟨Nat.le_of_ble_eq_true rfl, Nat.le_of_ble_eq_true rfl⟩ 1 rfl rfl rfl hl.1 rfl (Nat.le_of_ble_eq_true rfl) d_FF_takeName_23) hD hS (fun H locs hP hD hS => ?_)
    refine lv_iload_n hx hb d_FF_takeName_26 rfl (lv_at hl 0 rfl) ?_
    obtain ⟨hz, h⟩ | ⟨hz, h⟩ := if_some h
    rotate_left
    · cases h
    cases h
    exact xx_zret X hP hD hS hz d_FF_takeName_27
  · have h := if_f hk h
    cases h
    exact xx_leave X hE hk hP hD hS hce hcv hcl (Nat.le_refl _) (Nat.le_refl _)
theorem d_FF_make_0 : decode prog_1_method_5_code 0 = .ok (.aload_n 0, 1) := by decide +kernel
theorem d_FF_make_1 : decode prog_1_method_5_code 1 = .ok (.iload_n 1, 1) := by decide +kernel
theorem d_FF_make_2 : decode prog_1_method_5_code 2 = .ok (.aload_n 0, 1) := by decide +kernel
theorem d_FF_make_3 : decode prog_1_method_5_code 3 = .ok (.iload_n 2, 1) := by decide +kernel
theorem d_FF_make_4 : decode prog_1_method_5_code 4 = .ok (.invokevirtual 130, 3) := by decide +kernel
theorem d_FF_make_7 : decode prog_1_method_5_code 7 = .ok (.invokevirtual 134, 3) := by decide +kernel
theorem d_FF_make_10 : decode prog_1_method_5_code 10 = .ok (.aload_n 0, 1) := by decide +kernel
theorem d_FF_make_11 : decode prog_1_method_5_code 11 = .ok (.invokevirtual 138, 3) := by decide +kernel
theorem d_FF_make_14 : decode prog_1_method_5_code 14 = .ok (.aload_n 0, 1) := by decide +kernel
theorem d_FF_make_15 : decode prog_1_method_5_code 15 = .ok (.iconst 4, 1) := by decide +kernel
theorem d_FF_make_16 : decode prog_1_method_5_code 16 = .ok (.invokevirtual 141, 3) := by decide +kernel
theorem d_FF_make_19 : decode prog_1_method_5_code 19 = .ok (.aload_n 0, 1) := by decide +kernel
theorem d_FF_make_20 : decode prog_1_method_5_code 20 = .ok (.getfield 63, 3) := by decide +kernel
theorem d_FF_make_23 : decode prog_1_method_5_code 23 = .ok (.iload_n 1, 1) := by decide +kernel
theorem d_FF_make_24 : decode prog_1_method_5_code 24 = .ok (.aload_n 0, 1) := by decide +kernel
theorem d_FF_make_25 : decode prog_1_method_5_code 25 = .ok (.getfield 21, 3) := by decide +kernel
theorem d_FF_make_28 : decode prog_1_method_5_code 28 = .ok (.iconst 1, 1) := by decide +kernel
theorem d_FF_make_29 : decode prog_1_method_5_code 29 = .ok (.invokevirtual 144, 3) := by decide +kernel
theorem d_FF_make_32 : decode prog_1_method_5_code 32 = .ok (.ireturn, 1) := by decide +kernel
set_option maxHeartbeats 4000000 in
set_option maxRecDepth 100000 in
theorem m_FF_make {l : Launch} {D : va_G} {ad : Nat → Nat} {ca : Nat → ClassId} {FU : Nat} {x1 : Int32} {x2 : Int32} {g : St} {q : Nat × Int32 × St} (h : FF_make FU x1 x2 g = some q) : CX l ⟨"FlashFiles", "make", "(II)I"⟩ prog_1_method_5_code 3 10 (some .int) D (tyF ca) (wF ad ca g) [.ref (ad 0), .int x1, .int x2] q.1 (some (.int q.2.1)) (wF ad ca q.2.2) := by
  refine CX.fx (by decide) (Nat.le_of_ble_eq_true rfl) ?_
  intro p e s m below meth c A ls X hE hZ htr hP hD hl
  have hl : lv_has ls 3 [(0, .ref (ad 0)), (1, .int x1), (2, .int x2)] := hl
  have hS : va_S A s.heap s.heap [] := va_S.rf
  have hx := X.1
  have hb := X.2.1
  unfold FF_make at h
  refine lv_aload_n hx hb d_FF_make_0 rfl (lv_at hl 0 rfl) ?_
  refine lv_iload_n hx hb d_FF_make_1 rfl (lv_at hl 1 rfl) ?_
  refine lv_aload_n hx hb d_FF_make_2 rfl (lv_at hl 0 rfl) ?_
  refine lv_iload_n hx hb d_FF_make_3 rfl (lv_at hl 2 rfl) ?_
  obtain ⟨p1, e1, h⟩ := bd_some h
  refine xx_V (As := [.int x2]) X (m_FF_takeName e1) hZ htr hP hD hS kv_FF_130 ⟨⟨Nat.le_of_ble_eq_true rfl, Nat.le_of_ble_eq_true rfl⟩, Nat.le_of_ble_eq_true rfl, Nat.le_of_ble_eq_true rfl⟩ 0 rfl rfl rfl hl.1 rfl (Nat.le_of_ble_eq_true rfl) d_FF_make_4 (fun hk H locs hP hD hS => ?_) (fun hk H locs q9 ce hP hD hS hce hcv hcl => ?_)
  · have h := if_t hk h
    refine W.eq (g2 := F0 m 7 ls [.int p1.2.1, .int x1, .ref (ad 0)]) rfl ?_
    obtain ⟨p2, e1, h⟩ := bd_some h
    refine xx_V (As := [.int x1, .int p1.2.1]) X (m_FF_requireNewName e1) hZ htr hP hD hS kv_FF_134 ⟨⟨Nat.le_of_ble_eq_true rfl, Nat.le_of_ble_eq_true rfl⟩, Nat.le_of_ble_eq_true rfl, Nat.le_of_ble_eq_true rfl⟩ 0 rfl rfl rfl hl.1 rfl (Nat.le_of_ble_eq_true rfl) d_FF_make_7 (fun hk H locs hP hD hS => ?_) (fun hk H locs q9 ce hP hD hS hce hcv hcl => ?_)
    · have h := if_t hk h
      refine W.eq (g2 := F0 m 10 ls []) rfl ?_
      refine lv_aload_n hx hb d_FF_make_10 rfl (lv_at hl 0 rfl) ?_
      obtain ⟨p3, e1, h⟩ := bd_some h
      refine xx_V (As := []) X (m_FF_requireNewId e1) hZ htr hP hD hS kv_FF_138 ⟨⟨Nat.le_of_ble_eq_true rfl, Nat.le_of_ble_eq_true rfl⟩, Nat.le_of_ble_eq_true rfl, Nat.le_of_ble_eq_true rfl⟩ 0 rfl rfl rfl hl.1 rfl (Nat.le_of_ble_eq_true rfl) d_FF_make_11 (fun hk H locs hP hD hS => ?_) (fun hk H locs q9 ce hP hD hS hce hcv hcl => ?_)
      · have h := if_t hk h
        refine W.eq (g2 := F0 m 14 ls []) rfl ?_
        refine lv_aload_n hx hb d_FF_make_14 rfl (lv_at hl 0 rfl) ?_
        refine lv_iconst (v := 4) hx hb d_FF_make_15 (by decide) ?_
        obtain ⟨p4, e1, h⟩ := bd_some h
        refine xx_V (As := [.int (4 : Int32)]) X (m_FF_reserve e1) hZ htr hP hD hS kv_FF_141 ⟨⟨Nat.le_of_ble_eq_true rfl, Nat.le_of_ble_eq_true rfl⟩, Nat.le_of_ble_eq_true rfl, Nat.le_of_ble_eq_true rfl⟩ 0 rfl rfl rfl hl.1 rfl (Nat.le_of_ble_eq_true rfl) d_FF_make_16 (fun hk H locs hP hD hS => ?_) (fun hk H locs q9 ce hP hD hS hce hcv hcl => ?_)
        · have h := if_t hk h
          refine W.eq (g2 := F0 m 19 ls []) rfl ?_
          refine lv_aload_n hx hb d_FF_make_19 rfl (lv_at hl 0 rfl) ?_
          refine gF_ff_tree X hP d_FF_make_20 ?_
          refine lv_iload_n hx hb d_FF_make_23 rfl (lv_at hl 1 rfl) ?_
          refine lv_aload_n hx hb d_FF_make_24 rfl (lv_at hl 0 rfl) ?_
          refine gF_ff_first X hP d_FF_make_25 ?_
          refine lv_iconst (v := 1) hx hb d_FF_make_28 (by decide) ?_
          obtain ⟨p5, e1, h⟩ := bd_some h
          refine fx_i X (fx_runV (As := [.int x1, .ref (ad 13), .int (1 : Int32)]) X (m_Tre_addNew_2 e1 _) hP hD kv_FF_144 ⟨Nat.le_of_ble_eq_true rfl, Nat.le_of_ble_eq_true rfl⟩ 7 rfl rfl rfl hl.1 rfl (Nat.le_of_ble_eq_true rfl) d_FF_make_29) hD hS (fun H locs hP hD hS => ?_)
          cases h
          exact xx_iret X hP hD hS d_FF_make_32
        · have h := if_f hk h
          cases h
          exact xx_leave X hE hk hP hD hS hce hcv hcl (Nat.le_refl _) (Nat.le_refl _)
      · have h := if_f hk h
        cases h
        exact xx_leave X hE hk hP hD hS hce hcv hcl (Nat.le_refl _) (Nat.le_refl _)
    · have h := if_f hk h
      cases h
      exact xx_leave X hE hk hP hD hS hce hcv hcl (Nat.le_refl _) (Nat.le_refl _)
  · have h := if_f hk h
    cases h
    exact xx_leave X hE hk hP hD hS hce hcv hcl (Nat.le_refl _) (Nat.le_refl _)
theorem d_FF_makeDirectory_0 : decode prog_1_method_6_code 0 = .ok (.aload_n 0, 1) := by decide +kernel
theorem d_FF_makeDirectory_1 : decode prog_1_method_6_code 1 = .ok (.iload_n 1, 1) := by decide +kernel
theorem d_FF_makeDirectory_2 : decode prog_1_method_6_code 2 = .ok (.aload_n 0, 1) := by decide +kernel
theorem d_FF_makeDirectory_3 : decode prog_1_method_6_code 3 = .ok (.iload_n 2, 1) := by decide +kernel
theorem d_FF_makeDirectory_4 : decode prog_1_method_6_code 4 = .ok (.invokevirtual 130, 3) := by decide +kernel
theorem d_FF_makeDirectory_7 : decode prog_1_method_6_code 7 = .ok (.invokevirtual 134, 3) := by decide +kernel
theorem d_FF_makeDirectory_10 : decode prog_1_method_6_code 10 = .ok (.aload_n 0, 1) := by decide +kernel
theorem d_FF_makeDirectory_11 : decode prog_1_method_6_code 11 = .ok (.invokevirtual 138, 3) := by decide +kernel
theorem d_FF_makeDirectory_14 : decode prog_1_method_6_code 14 = .ok (.aload_n 0, 1) := by decide +kernel
theorem d_FF_makeDirectory_15 : decode prog_1_method_6_code 15 = .ok (.iconst 4, 1) := by decide +kernel
theorem d_FF_makeDirectory_16 : decode prog_1_method_6_code 16 = .ok (.invokevirtual 141, 3) := by decide +kernel
theorem d_FF_makeDirectory_19 : decode prog_1_method_6_code 19 = .ok (.aload_n 0, 1) := by decide +kernel
theorem d_FF_makeDirectory_20 : decode prog_1_method_6_code 20 = .ok (.getfield 63, 3) := by decide +kernel
theorem d_FF_makeDirectory_23 : decode prog_1_method_6_code 23 = .ok (.iload_n 1, 1) := by decide +kernel
theorem d_FF_makeDirectory_24 : decode prog_1_method_6_code 24 = .ok (.aload_n 0, 1) := by decide +kernel
theorem d_FF_makeDirectory_25 : decode prog_1_method_6_code 25 = .ok (.getfield 21, 3) := by decide +kernel
theorem d_FF_makeDirectory_28 : decode prog_1_method_6_code 28 = .ok (.iconst 2, 1) := by decide +kernel
theorem d_FF_makeDirectory_29 : decode prog_1_method_6_code 29 = .ok (.invokevirtual 144, 3) := by decide +kernel
theorem d_FF_makeDirectory_32 : decode prog_1_method_6_code 32 = .ok (.ireturn, 1) := by decide +kernel
set_option maxHeartbeats 4000000 in
set_option maxRecDepth 100000 in
theorem m_FF_makeDirectory {l : Launch} {D : va_G} {ad : Nat → Nat} {ca : Nat → ClassId} {FU : Nat} {x1 : Int32} {x2 : Int32} {g : St} {q : Nat × Int32 × St} (h : FF_makeDirectory FU x1 x2 g = some q) : CX l ⟨"FlashFiles", "makeDirectory", "(II)I"⟩ prog_1_method_6_code 3 10 (some .int) D (tyF ca) (wF ad ca g) [.ref (ad 0), .int x1, .int x2] q.1 (some (.int q.2.1)) (wF ad ca q.2.2) := by
  refine CX.fx (by decide) (Nat.le_of_ble_eq_true rfl) ?_
  intro p e s m below meth c A ls X hE hZ htr hP hD hl
  have hl : lv_has ls 3 [(0, .ref (ad 0)), (1, .int x1), (2, .int x2)] := hl
  have hS : va_S A s.heap s.heap [] := va_S.rf
  have hx := X.1
  have hb := X.2.1
  unfold FF_makeDirectory at h
  refine lv_aload_n hx hb d_FF_makeDirectory_0 rfl (lv_at hl 0 rfl) ?_
  refine lv_iload_n hx hb d_FF_makeDirectory_1 rfl (lv_at hl 1 rfl) ?_
  refine lv_aload_n hx hb d_FF_makeDirectory_2 rfl (lv_at hl 0 rfl) ?_
  refine lv_iload_n hx hb d_FF_makeDirectory_3 rfl (lv_at hl 2 rfl) ?_
  obtain ⟨p1, e1, h⟩ := bd_some h
  refine xx_V (As := [.int x2]) X (m_FF_takeName e1) hZ htr hP hD hS kv_FF_130 ⟨⟨Nat.le_of_ble_eq_true rfl, Nat.le_of_ble_eq_true rfl⟩, Nat.le_of_ble_eq_true rfl, Nat.le_of_ble_eq_true rfl⟩ 0 rfl rfl rfl hl.1 rfl (Nat.le_of_ble_eq_true rfl) d_FF_makeDirectory_4 (fun hk H locs hP hD hS => ?_) (fun hk H locs q9 ce hP hD hS hce hcv hcl => ?_)
  · have h := if_t hk h
    refine W.eq (g2 := F0 m 7 ls [.int p1.2.1, .int x1, .ref (ad 0)]) rfl ?_
    obtain ⟨p2, e1, h⟩ := bd_some h
    refine xx_V (As := [.int x1, .int p1.2.1]) X (m_FF_requireNewName e1) hZ htr hP hD hS kv_FF_134 ⟨⟨Nat.le_of_ble_eq_true rfl, Nat.le_of_ble_eq_true rfl⟩, Nat.le_of_ble_eq_true rfl, Nat.le_of_ble_eq_true rfl⟩ 0 rfl rfl rfl hl.1 rfl (Nat.le_of_ble_eq_true rfl) d_FF_makeDirectory_7 (fun hk H locs hP hD hS => ?_) (fun hk H locs q9 ce hP hD hS hce hcv hcl => ?_)
    · have h := if_t hk h
      refine W.eq (g2 := F0 m 10 ls []) rfl ?_
      refine lv_aload_n hx hb d_FF_makeDirectory_10 rfl (lv_at hl 0 rfl) ?_
      obtain ⟨p3, e1, h⟩ := bd_some h
      refine xx_V (As := []) X (m_FF_requireNewId e1) hZ htr hP hD hS kv_FF_138 ⟨⟨Nat.le_of_ble_eq_true rfl, Nat.le_of_ble_eq_true rfl⟩, Nat.le_of_ble_eq_true rfl, Nat.le_of_ble_eq_true rfl⟩ 0 rfl rfl rfl hl.1 rfl (Nat.le_of_ble_eq_true rfl) d_FF_makeDirectory_11 (fun hk H locs hP hD hS => ?_) (fun hk H locs q9 ce hP hD hS hce hcv hcl => ?_)
      · have h := if_t hk h
        refine W.eq (g2 := F0 m 14 ls []) rfl ?_
        refine lv_aload_n hx hb d_FF_makeDirectory_14 rfl (lv_at hl 0 rfl) ?_
        refine lv_iconst (v := 4) hx hb d_FF_makeDirectory_15 (by decide) ?_
        obtain ⟨p4, e1, h⟩ := bd_some h
        refine xx_V (As := [.int (4 : Int32)]) X (m_FF_reserve e1) hZ htr hP hD hS kv_FF_141 ⟨⟨Nat.le_of_ble_eq_true rfl, Nat.le_of_ble_eq_true rfl⟩, Nat.le_of_ble_eq_true rfl, Nat.le_of_ble_eq_true rfl⟩ 0 rfl rfl rfl hl.1 rfl (Nat.le_of_ble_eq_true rfl) d_FF_makeDirectory_16 (fun hk H locs hP hD hS => ?_) (fun hk H locs q9 ce hP hD hS hce hcv hcl => ?_)
        · have h := if_t hk h
          refine W.eq (g2 := F0 m 19 ls []) rfl ?_
          refine lv_aload_n hx hb d_FF_makeDirectory_19 rfl (lv_at hl 0 rfl) ?_
          refine gF_ff_tree X hP d_FF_makeDirectory_20 ?_
          refine lv_iload_n hx hb d_FF_makeDirectory_23 rfl (lv_at hl 1 rfl) ?_
          refine lv_aload_n hx hb d_FF_makeDirectory_24 rfl (lv_at hl 0 rfl) ?_
          refine gF_ff_first X hP d_FF_makeDirectory_25 ?_
          refine lv_iconst (v := 2) hx hb d_FF_makeDirectory_28 (by decide) ?_
          obtain ⟨p5, e1, h⟩ := bd_some h
          refine fx_i X (fx_runV (As := [.int x1, .ref (ad 13), .int (2 : Int32)]) X (m_Tre_addNew_2 e1 _) hP hD kv_FF_144 ⟨Nat.le_of_ble_eq_true rfl, Nat.le_of_ble_eq_true rfl⟩ 7 rfl rfl rfl hl.1 rfl (Nat.le_of_ble_eq_true rfl) d_FF_makeDirectory_29) hD hS (fun H locs hP hD hS => ?_)
          cases h
          exact xx_iret X hP hD hS d_FF_makeDirectory_32
        · have h := if_f hk h
          cases h
          exact xx_leave X hE hk hP hD hS hce hcv hcl (Nat.le_refl _) (Nat.le_refl _)
      · have h := if_f hk h
        cases h
        exact xx_leave X hE hk hP hD hS hce hcv hcl (Nat.le_refl _) (Nat.le_refl _)
    · have h := if_f hk h
      cases h
      exact xx_leave X hE hk hP hD hS hce hcv hcl (Nat.le_refl _) (Nat.le_refl _)
  · have h := if_f hk h
    cases h
    exact xx_leave X hE hk hP hD hS hce hcv hcl (Nat.le_refl _) (Nat.le_refl _)
theorem d_FF_requireFile_0 : decode prog_1_method_27_code 0 = .ok (.aload_n 0, 1) := by decide +kernel
theorem d_FF_requireFile_1 : decode prog_1_method_27_code 1 = .ok (.getfield 63, 3) := by decide +kernel
theorem d_FF_requireFile_4 : decode prog_1_method_27_code 4 = .ok (.iload_n 1, 1) := by decide +kernel
theorem d_FF_requireFile_5 : decode prog_1_method_27_code 5 = .ok (.invokevirtual 240, 3) := by decide +kernel
theorem d_FF_requireFile_8 : decode prog_1_method_27_code 8 = .ok (.iconst 1, 1) := by decide +kernel
theorem d_FF_requireFile_9 : decode prog_1_method_27_code 9 = .ok (.if_icmp .eq 14, 3) := by decide +kernel
theorem d_FF_requireFile_12 : decode prog_1_method_27_code 12 = .ok (.new 98, 3) := by decide +kernel
theorem d_FF_requireFile_15 : decode prog_1_method_27_code 15 = .ok (.dup, 1) := by decide +kernel
theorem d_FF_requireFile_16 : decode prog_1_method_27_code 16 = .ok (.ldc_w 282, 3) := by decide +kernel
theorem d_FF_requireFile_19 : decode prog_1_method_27_code 19 = .ok (.invokespecial 102, 3) := by decide +kernel
theorem d_FF_requireFile_22 : decode prog_1_method_27_code 22 = .ok (.athrow, 1) := by decide +kernel
theorem d_FF_requireFile_23 : decode prog_1_method_27_code 23 = .ok (.return_, 1) := by decide +kernel
set_option maxHeartbeats 4000000 in
set_option maxRecDepth 100000 in
theorem m_FF_requireFile {l : Launch} {D : va_G} {ad : Nat → Nat} {ca : Nat → ClassId} {FU : Nat} {x1 : Int32} {g : St} {q : Nat × Int32 × St} (h : FF_requireFile FU x1 g = some q) : CX l ⟨"FlashFiles", "requireFile", "(I)V"⟩ prog_1_method_27_code 2 6 none D (tyF ca) (wF ad ca g) [.ref (ad 0), .int x1] q.1 none (wF ad ca q.2.2) := by
  refine CX.fx (by decide) (Nat.le_of_ble_eq_true rfl) ?_
  intro p e s m below meth c A ls X hE hZ htr hP hD hl
  have hl : lv_has ls 2 [(0, .ref (ad 0)), (1, .int x1)] := hl
  have hS : va_S A s.heap s.heap [] := va_S.rf
  have hx := X.1
  have hb := X.2.1
  unfold FF_requireFile at h
  refine lv_aload_n hx hb d_FF_requireFile_0 rfl (lv_at hl 0 rfl) ?_
  refine gF_ff_tree X hP d_FF_requireFile_1 ?_
  refine lv_iload_n hx hb d_FF_requireFile_4 rfl (lv_at hl 1 rfl) ?_
  obtain ⟨v1, e1, h⟩ := bd_some h
  refine fx_i X (fx_runV (As := [.int x1]) X (m_Tre_kindOf e1 _) hP hD kv_FF_240 ⟨Nat.le_of_ble_eq_true rfl, Nat.le_of_ble_eq_true rfl⟩ 7 rfl rfl rfl hl.1 rfl (Nat.le_of_ble_eq_true rfl) d_FF_requireFile_5) hD hS (fun H locs hP hD hS => ?_)
  refine lv_iconst (v := 1) hx hb d_FF_requireFile_8 (by decide) ?_
  refine lv_icmp_eq (tgt := 23) hx hb d_FF_requireFile_9 (by decide) (fun hc => ?_) (fun hc => ?_)
  · have h := if_t hc h
    cases h
    exact xx_vret X hP hD hS d_FF_requireFile_23
  · have h := if_f hc h
    cases h
    exact xx_throwW (k := 1) (ik := 98) (is := 282) (ic := 102) (text := "no such file") (names := exN) X hE hZ htr (by decide) hP hD hS (by decide) (by decide) at_1_102 cl_98 in_E1 (List.mem_of_getElem? (i := 12) rfl) hl.1 d_FF_requireFile_12 d_FF_requireFile_15 d_FF_requireFile_16 d_FF_requireFile_19 d_FF_requireFile_22 ⟨⟨by decide, Nat.le_of_ble_eq_true rfl⟩, by decide, by decide⟩
theorem d_FF_link_0 : decode prog_1_method_7_code 0 = .ok (.aload_n 0, 1) := by decide +kernel
theorem d_FF_link_1 : decode prog_1_method_7_code 1 = .ok (.iload_n 3, 1) := by decide +kernel
theorem d_FF_link_2 : decode prog_1_method_7_code 2 = .ok (.invokevirtual 130, 3) := by decide +kernel
theorem d_FF_link_5 : decode prog_1_method_7_code 5 = .ok (.istore 4, 2) := by decide +kernel
theorem d_FF_link_7 : decode prog_1_method_7_code 7 = .ok (.aload_n 0, 1) := by decide +kernel
theorem d_FF_link_8 : decode prog_1_method_7_code 8 = .ok (.iload_n 1, 1) := by decide +kernel
theorem d_FF_link_9 : decode prog_1_method_7_code 9 = .ok (.invokevirtual 148, 3) := by decide +kernel
theorem d_FF_link_12 : decode prog_1_method_7_code 12 = .ok (.aload_n 0, 1) := by decide +kernel
theorem d_FF_link_13 : decode prog_1_method_7_code 13 = .ok (.iload_n 2, 1) := by decide +kernel
theorem d_FF_link_14 : decode prog_1_method_7_code 14 = .ok (.iload 4, 2) := by decide +kernel
theorem d_FF_link_16 : decode prog_1_method_7_code 16 = .ok (.invokevirtual 134, 3) := by decide +kernel
theorem d_FF_link_19 : decode prog_1_method_7_code 19 = .ok (.aload_n 0, 1) := by decide +kernel
theorem d_FF_link_20 : decode prog_1_method_7_code 20 = .ok (.iconst 4, 1) := by decide +kernel
theorem d_FF_link_21 : decode prog_1_method_7_code 21 = .ok (.invokevirtual 141, 3) := by decide +kernel
theorem d_FF_link_24 : decode prog_1_method_7_code 24 = .ok (.aload_n 0, 1) := by decide +kernel
theorem d_FF_link_25 : decode prog_1_method_7_code 25 = .ok (.getfield 63, 3) := by decide +kernel
theorem d_FF_link_28 : decode prog_1_method_7_code 28 = .ok (.iload_n 2, 1) := by decide +kernel
theorem d_FF_link_29 : decode prog_1_method_7_code 29 = .ok (.aload_n 0, 1) := by decide +kernel
theorem d_FF_link_30 : decode prog_1_method_7_code 30 = .ok (.getfield 21, 3) := by decide +kernel
theorem d_FF_link_33 : decode prog_1_method_7_code 33 = .ok (.iload_n 1, 1) := by decide +kernel
theorem d_FF_link_34 : decode prog_1_method_7_code 34 = .ok (.invokevirtual 151, 3) := by decide +kernel
theorem d_FF_link_37 : decode prog_1_method_7_code 37 = .ok (.aload_n 0, 1) := by decide +kernel
theorem d_FF_link_38 : decode prog_1_method_7_code 38 = .ok (.getfield 63, 3) := by decide +kernel
theorem d_FF_link_41 : decode prog_1_method_7_code 41 = .ok (.iload_n 1, 1) := by decide +kernel
theorem d_FF_link_42 : decode prog_1_method_7_code 42 = .ok (.iconst 1, 1) := by decide +kernel
theorem d_FF_link_43 : decode prog_1_method_7_code 43 = .ok (.invokevirtual 155, 3) := by decide +kernel
theorem d_FF_link_46 : decode prog_1_method_7_code 46 = .ok (.ireturn, 1) := by decide +kernel
set_option maxHeartbeats 4000000 in
set_option maxRecDepth 100000 in
theorem m_FF_link {l : Launch} {D : va_G} {ad : Nat → Nat} {ca : Nat → ClassId} {FU : Nat} {x1 : Int32} {x2 : Int32} {x3 : Int32} {g : St} {q : Nat × Int32 × St} (h : FF_link FU x1 x2 x3 g = some q) : CX l ⟨"FlashFiles", "link", "(III)I"⟩ prog_1_method_7_code 5 10 (some .int) D (tyF ca) (wF ad ca g) [.ref (ad 0), .int x1, .int x2, .int x3] q.1 (some (.int q.2.1)) (wF ad ca q.2.2) := by
  refine CX.fx (by decide) (Nat.le_of_ble_eq_true rfl) ?_
  intro p e s m below meth c A ls X hE hZ htr hP hD hl
  have hl : lv_has ls 5 [(0, .ref (ad 0)), (1, .int x1), (2, .int x2), (3, .int x3)] := hl
  have hS : va_S A s.heap s.heap [] := va_S.rf
  have hx := X.1
  have hb := X.2.1
  unfold FF_link at h
  refine lv_aload_n hx hb d_FF_link_0 rfl (lv_at hl 0 rfl) ?_
  refine lv_iload_n hx hb d_FF_link_1 rfl (lv_at hl 3 rfl) ?_
  obtain ⟨p1, e1, h⟩ := bd_some h
  refine xx_V (As := [.int x3]) X (m_FF_takeName e1) hZ htr hP hD hS kv_FF_130 ⟨⟨Nat.le_of_ble_eq_true rfl, Nat.le_of_ble_eq_true rfl⟩, Nat.le_of_ble_eq_true rfl, Nat.le_of_ble_eq_true rfl⟩ 0 rfl rfl rfl hl.1 rfl (Nat.le_of_ble_eq_true rfl) d_FF_link_2 (fun hk H locs hP hD hS => ?_) (fun hk H locs q9 ce hP hD hS hce hcv hcl => ?_)
  · have h := if_t hk h
    refine W.eq (g2 := F0 m 5 ls [.int p1.2.1]) rfl ?_
    refine lv_istore hx hb d_FF_link_5 hl (by decide) rfl (fun ls hl => ?_)
    have hl : lv_has ls 5 [(4, .int p1.2.1), (0, .ref (ad 0)), (1, .int x1), (2, .int x2), (3, .int x3)] := hl
    refine lv_aload_n hx hb d_FF_link_7 rfl (lv_at hl 1 rfl) ?_
    refine lv_iload_n hx hb d_FF_link_8 rfl (lv_at hl 2 rfl) ?_
    obtain ⟨p2, e1, h⟩ := bd_some h
    refine xx_V (As := [.int x1]) X (m_FF_requireFile e1) hZ htr hP hD hS kv_FF_148 ⟨⟨Nat.le_of_ble_eq_true rfl, Nat.le_of_ble_eq_true rfl⟩, Nat.le_of_ble_eq_true rfl, Nat.le_of_ble_eq_true rfl⟩ 0 rfl rfl rfl hl.1 rfl (Nat.le_of_ble_eq_true rfl) d_FF_link_9 (fun hk H locs hP hD hS => ?_) (fun hk H locs q9 ce hP hD hS hce hcv hcl => ?_)
    · have h := if_t hk h
      refine W.eq (g2 := F0 m 12 ls []) rfl ?_
      refine lv_aload_n hx hb d_FF_link_12 rfl (lv_at hl 1 rfl) ?_
      refine lv_iload_n hx hb d_FF_link_13 rfl (lv_at hl 3 rfl) ?_
      refine lv_iload hx hb d_FF_link_14 (lv_at hl 0 rfl) ?_
      obtain ⟨p3, e1, h⟩ := bd_some h
      refine xx_V (As := [.int x2, .int p1.2.1]) X (m_FF_requireNewName e1) hZ htr hP hD hS kv_FF_134 ⟨⟨Nat.le_of_ble_eq_true rfl, Nat.le_of_ble_eq_true rfl⟩, Nat.le_of_ble_eq_true rfl, Nat.le_of_ble_eq_true rfl⟩ 0 rfl rfl rfl hl.1 rfl (Nat.le_of_ble_eq_true rfl) d_FF_link_16 (fun hk H locs hP hD hS => ?_) (fun hk H locs q9 ce hP hD hS hce hcv hcl => ?_)
      · have h := if_t hk h
        refine W.eq (g2 := F0 m 19 ls []) rfl ?_
        refine lv_aload_n hx hb d_FF_link_19 rfl (lv_at hl 1 rfl) ?_
        refine lv_iconst (v := 4) hx hb d_FF_link_20 (by decide) ?_
        obtain ⟨p4, e1, h⟩ := bd_some h
        refine xx_V (As := [.int (4 : Int32)]) X (m_FF_reserve e1) hZ htr hP hD hS kv_FF_141 ⟨⟨Nat.le_of_ble_eq_true rfl, Nat.le_of_ble_eq_true rfl⟩, Nat.le_of_ble_eq_true rfl, Nat.le_of_ble_eq_true rfl⟩ 0 rfl rfl rfl hl.1 rfl (Nat.le_of_ble_eq_true rfl) d_FF_link_21 (fun hk H locs hP hD hS => ?_) (fun hk H locs q9 ce hP hD hS hce hcv hcl => ?_)
        · have h := if_t hk h
          refine W.eq (g2 := F0 m 24 ls []) rfl ?_
          refine lv_aload_n hx hb d_FF_link_24 rfl (lv_at hl 1 rfl) ?_
          refine gF_ff_tree X hP d_FF_link_25 ?_
          refine lv_iload_n hx hb d_FF_link_28 rfl (lv_at hl 3 rfl) ?_
          refine lv_aload_n hx hb d_FF_link_29 rfl (lv_at hl 1 rfl) ?_
          refine gF_ff_first X hP d_FF_link_30 ?_
          refine lv_iload_n hx hb d_FF_link_33 rfl (lv_at hl 2 rfl) ?_
          obtain ⟨p5, e1, h⟩ := bd_some h
          refine fx_v X (fx_runV (As := [.int x2, .ref (ad 13), .int x1]) X (m_Tre_addName_2 e1 _) hP hD kv_FF_151 ⟨Nat.le_of_ble_eq_true rfl, Nat.le_of_ble_eq_true rfl⟩ 7 rfl rfl rfl hl.1 rfl (Nat.le_of_ble_eq_true rfl) d_FF_link_34) hD hS (fun H locs hP hD hS => ?_)
          refine lv_aload_n hx hb d_FF_link_37 rfl (lv_at hl 1 rfl) ?_
          refine gF_ff_tree X hP d_FF_link_38 ?_
          refine lv_iload_n hx hb d_FF_link_41 rfl (lv_at hl 2 rfl) ?_
          refine lv_iconst (v := 1) hx hb d_FF_link_42 (by decide) ?_
          obtain ⟨p6, e1, h⟩ := bd_some h
          refine fx_i X (fx_runV (As := [.int x1, .int (1 : Int32)]) X (m_Tre_changeLinks e1 _) hP hD kv_FF_155 ⟨Nat.le_of_ble_eq_true rfl, Nat.le_of_ble_eq_true rfl⟩ 7 rfl rfl rfl hl.1 rfl (Nat.le_of_ble_eq_true rfl) d_FF_link_43) hD hS (fun H locs hP hD hS => ?_)
          cases h
          exact xx_iret X hP hD hS d_FF_link_46
        · have h := if_f hk h
          cases h
          exact xx_leave X hE hk hP hD hS hce hcv hcl (Nat.le_refl _) (Nat.le_refl _)
      · have h := if_f hk h
        cases h
        exact xx_leave X hE hk hP hD hS hce hcv hcl (Nat.le_refl _) (Nat.le_refl _)
    · have h := if_f hk h
      cases h
      exact xx_leave X hE hk hP hD hS hce hcv hcl (Nat.le_refl _) (Nat.le_refl _)
  · have h := if_f hk h
    cases h
    exact xx_leave X hE hk hP hD hS hce hcv hcl (Nat.le_refl _) (Nat.le_refl _)
theorem d_FF_loseLink_0 : decode prog_1_method_40_code 0 = .ok (.aload_n 0, 1) := by decide +kernel
theorem d_FF_loseLink_1 : decode prog_1_method_40_code 1 = .ok (.getfield 63, 3) := by decide +kernel
theorem d_FF_loseLink_4 : decode prog_1_method_40_code 4 = .ok (.iload_n 1, 1) := by decide +kernel
theorem d_FF_loseLink_5 : decode prog_1_method_40_code 5 = .ok (.iconst 2, 1) := by decide +kernel
theorem d_FF_loseLink_6 : decode prog_1_method_40_code 6 = .ok (.invokevirtual 175, 3) := by decide +kernel
theorem d_FF_loseLink_9 : decode prog_1_method_40_code 9 = .ok (.iconst 1, 1) := by decide +kernel
theorem d_FF_loseLink_10 : decode prog_1_method_40_code 10 = .ok (.if_icmp .le 13, 3) := by decide +kernel
theorem d_FF_loseLink_13 : decode prog_1_method_40_code 13 = .ok (.aload_n 0, 1) := by decide +kernel
theorem d_FF_loseLink_14 : decode prog_1_method_40_code 14 = .ok (.getfield 63, 3) := by decide +kernel
theorem d_FF_loseLink_17 : decode prog_1_method_40_code 17 = .ok (.iload_n 1, 1) := by decide +kernel
theorem d_FF_loseLink_18 : decode prog_1_method_40_code 18 = .ok (.iconst (-1), 1) := by decide +kernel
theorem d_FF_loseLink_19 : decode prog_1_method_40_code 19 = .ok (.invokevirtual 155, 3) := by decide +kernel
theorem d_FF_loseLink_22 : decode prog_1_method_40_code 22 = .ok (.ireturn, 1) := by decide +kernel
theorem d_FF_loseLink_23 : decode prog_1_method_40_code 23 = .ok (.aload_n 0, 1) := by decide +kernel
theorem d_FF_loseLink_24 : decode prog_1_method_40_code 24 = .ok (.getfield 56, 3) := by decide +kernel
theorem d_FF_loseLink_27 : decode prog_1_method_40_code 27 = .ok (.iload_n 1, 1) := by decide +kernel
theorem d_FF_loseLink_28 : decode prog_1_method_40_code 28 = .ok (.invokevirtual 333, 3) := by decide +kernel
theorem d_FF_loseLink_31 : decode prog_1_method_40_code 31 = .ok (.iconst 0, 1) := by decide +kernel
theorem d_FF_loseLink_32 : decode prog_1_method_40_code 32 = .ok (.ireturn, 1) := by decide +kernel
set_option maxHeartbeats 4000000 in
set_option maxRecDepth 100000 in
theorem m_FF_loseLink {l : Launch} {D : va_G} {ad : Nat → Nat} {ca : Nat → ClassId} {FU : Nat} {x1 : Int32} {g : St} {q : Int32 × St} (h : FF_loseLink FU x1 g = some q) : CI l ⟨"FlashFiles", "loseLink", "(I)I"⟩ prog_1_method_40_code 2 6 (some .int) D (tyF ca) (wF ad ca g) [.ref (ad 0), .int x1] q.1 (wF ad ca q.2) := by
  intro sz
  refine Met.fx (Qc := fun A => fxQi D (tyF ca) A (wF ad ca q.2) q.1) (by decide) (Nat.le_of_ble_eq_true rfl) ?_
  intro p e s m below meth c A ls X hP hD hl
  have hl : lv_has ls 2 [(0, .ref (ad 0)), (1, .int x1)] := hl
  have hS : va_S A s.heap s.heap [] := va_S.rf
  have hx := X.1
  have hb := X.2.1
  unfold FF_loseLink at h
  refine lv_aload_n hx hb d_FF_loseLink_0 rfl (lv_at hl 0 rfl) ?_
  refine gF_ff_tree X hP d_FF_loseLink_1 ?_
  refine lv_iload_n hx hb d_FF_loseLink_4 rfl (lv_at hl 1 rfl) ?_
  refine lv_iconst (v := 2) hx hb d_FF_loseLink_5 (by decide) ?_
  obtain ⟨v1, e1, h⟩ := bd_some h
  refine fx_i X (fx_runV (As := [.int x1, .int (2 : Int32)]) X (m_Tre_wordOf e1 _) hP hD kv_FF_175 ⟨Nat.le_of_ble_eq_true rfl, Nat.le_of_ble_eq_true rfl⟩ 7 rfl rfl rfl hl.1 rfl (Nat.le_of_ble_eq_true rfl) d_FF_loseLink_6) hD hS (fun H locs hP hD hS => ?_)
  refine lv_iconst (v := 1) hx hb d_FF_loseLink_9 (by decide) ?_
  refine lv_icmp_le (tgt := 23) hx hb d_FF_loseLink_10 (by decide) (fun hc => ?_) (fun hc => ?_)
  · have h := if_t hc h
    refine lv_aload_n hx hb d_FF_loseLink_23 rfl (lv_at hl 0 rfl) ?_
    refine gF_ff_files X hP d_FF_loseLink_24 ?_
    refine lv_iload_n hx hb d_FF_loseLink_27 rfl (lv_at hl 1 rfl) ?_
    obtain ⟨p2, e1, h⟩ := bd_some h
    refine fx_v X (fx_runV (As := [.int x1]) X (m_Fil_drop e1 _) hP hD kv_FF_333 ⟨Nat.le_of_ble_eq_true rfl, Nat.le_of_ble_eq_true rfl⟩ 6 rfl rfl rfl hl.1 rfl (Nat.le_of_ble_eq_true rfl) d_FF_loseLink_28) hD hS (fun H locs hP hD hS => ?_)
    refine lv_iconst (v := 0) hx hb d_FF_loseLink_31 (by decide) ?_
    cases h
    exact fx_iret X hP hD hS d_FF_loseLink_32
  · have h := if_f hc h
    refine lv_aload_n hx hb d_FF_loseLink_13 rfl (lv_at hl 0 rfl) ?_
    refine gF_ff_tree X hP d_FF_loseLink_14 ?_
    refine lv_iload_n hx hb d_FF_loseLink_17 rfl (lv_at hl 1 rfl) ?_
    refine lv_iconst (v := -1) hx hb d_FF_loseLink_18 (by decide) ?_
    obtain ⟨p3, e1, h⟩ := bd_some h
    refine fx_i X (fx_runV (As := [.int x1, .int (-1 : Int32)]) X (m_Tre_changeLinks e1 _) hP hD kv_FF_155 ⟨Nat.le_of_ble_eq_true rfl, Nat.le_of_ble_eq_true rfl⟩ 7 rfl rfl rfl hl.1 rfl (Nat.le_of_ble_eq_true rfl) d_FF_loseLink_19) hD hS (fun H locs hP hD hS => ?_)
    cases h
    exact fx_iret X hP hD hS d_FF_loseLink_22
theorem d_FF_requireOld_0 : decode prog_1_method_31_code 0 = .ok (.aload_n 0, 1) := by decide +kernel
theorem d_FF_requireOld_1 : decode prog_1_method_31_code 1 = .ok (.getfield 63, 3) := by decide +kernel
theorem d_FF_requireOld_4 : decode prog_1_method_31_code 4 = .ok (.iload_n 1, 1) := by decide +kernel
theorem d_FF_requireOld_5 : decode prog_1_method_31_code 5 = .ok (.aload_n 0, 1) := by decide +kernel
theorem d_FF_requireOld_6 : decode prog_1_method_31_code 6 = .ok (.getfield 21, 3) := by decide +kernel
theorem d_FF_requireOld_9 : decode prog_1_method_31_code 9 = .ok (.invokevirtual 187, 3) := by decide +kernel
theorem d_FF_requireOld_12 : decode prog_1_method_31_code 12 = .ok (.istore_n 3, 1) := by decide +kernel
theorem d_FF_requireOld_13 : decode prog_1_method_31_code 13 = .ok (.aload_n 0, 1) := by decide +kernel
theorem d_FF_requireOld_14 : decode prog_1_method_31_code 14 = .ok (.getfield 63, 3) := by decide +kernel
theorem d_FF_requireOld_17 : decode prog_1_method_31_code 17 = .ok (.aload_n 0, 1) := by decide +kernel
theorem d_FF_requireOld_18 : decode prog_1_method_31_code 18 = .ok (.getfield 63, 3) := by decide +kernel
theorem d_FF_requireOld_21 : decode prog_1_method_31_code 21 = .ok (.iload_n 1, 1) := by decide +kernel
theorem d_FF_requireOld_22 : decode prog_1_method_31_code 22 = .ok (.iload_n 3, 1) := by decide +kernel
theorem d_FF_requireOld_23 : decode prog_1_method_31_code 23 = .ok (.invokevirtual 165, 3) := by decide +kernel
theorem d_FF_requireOld_26 : decode prog_1_method_31_code 26 = .ok (.invokevirtual 240, 3) := by decide +kernel
theorem d_FF_requireOld_29 : decode prog_1_method_31_code 29 = .ok (.iload_n 2, 1) := by decide +kernel
theorem d_FF_requireOld_30 : decode prog_1_method_31_code 30 = .ok (.if_icmp .eq 14, 3) := by decide +kernel
theorem d_FF_requireOld_33 : decode prog_1_method_31_code 33 = .ok (.new 119, 3) := by decide +kernel
theorem d_FF_requireOld_36 : decode prog_1_method_31_code 36 = .ok (.dup, 1) := by decide +kernel
theorem d_FF_requireOld_37 : decode prog_1_method_31_code 37 = .ok (.ldc_w 293, 3) := by decide +kernel
theorem d_FF_requireOld_40 : decode prog_1_method_31_code 40 = .ok (.invokespecial 123, 3) := by decide +kernel
theorem d_FF_requireOld_43 : decode prog_1_method_31_code 43 = .ok (.athrow, 1) := by decide +kernel
theorem d_FF_requireOld_44 : decode prog_1_method_31_code 44 = .ok (.iload_n 3, 1) := by decide +kernel
theorem d_FF_requireOld_45 : decode prog_1_method_31_code 45 = .ok (.ireturn, 1) := by decide +kernel
set_option maxHeartbeats 4000000 in
set_option maxRecDepth 100000 in
theorem m_FF_requireOld {l : Launch} {D : va_G} {ad : Nat → Nat} {ca : Nat → ClassId} {FU : Nat} {x1 : Int32} {x2 : Int32} {g : St} {q : Nat × Int32 × St} (h : FF_requireOld FU x1 x2 g = some q) : CX l ⟨"FlashFiles", "requireOld", "(II)I"⟩ prog_1_method_31_code 4 6 (some .int) D (tyF ca) (wF ad ca g) [.ref (ad 0), .int x1, .int x2] q.1 (some (.int q.2.1)) (wF ad ca q.2.2) := by
  refine CX.fx (by decide) (Nat.le_of_ble_eq_true rfl) ?_
  intro p e s m below meth c A ls X hE hZ htr hP hD hl
  have hl : lv_has ls 4 [(0, .ref (ad 0)), (1, .int x1), (2, .int x2)] := hl
  have hS : va_S A s.heap s.heap [] := va_S.rf
  have hx := X.1
  have hb := X.2.1
  unfold FF_requireOld at h
  refine lv_aload_n hx hb d_FF_requireOld_0 rfl (lv_at hl 0 rfl) ?_
  refine gF_ff_tree X hP d_FF_requireOld_1 ?_
  refine lv_iload_n hx hb d_FF_requireOld_4 rfl (lv_at hl 1 rfl) ?_
  refine lv_aload_n hx hb d_FF_requireOld_5 rfl (lv_at hl 0 rfl) ?_
  refine gF_ff_first X hP d_FF_requireOld_6 ?_
  obtain ⟨v1, e1, h⟩ := bd_some h
  refine fx_i X (fx_runV (As := [.int x1, .ref (ad 13)]) X (m_Tre_slotOf_2 e1 _) hP hD kv_FF_187 ⟨Nat.le_of_ble_eq_true rfl, Nat.le_of_ble_eq_true rfl⟩ 7 rfl rfl rfl hl.1 rfl (Nat.le_of_ble_eq_true rfl) d_FF_requireOld_9) hD hS (fun H locs hP hD hS => ?_)
  refine lv_istore_n hx hb d_FF_requireOld_12 rfl hl (by decide) rfl (fun ls hl => ?_)
  have hl : lv_has ls 4 [(3, .int v1), (0, .ref (ad 0)), (1, .int x1), (2, .int x2)] := hl
  refine lv_aload_n hx hb d_FF_requireOld_13 rfl (lv_at hl 1 rfl) ?_
  refine gF_ff_tree X hP d_FF_requireOld_14 ?_
  refine lv_aload_n hx hb d_FF_requireOld_17 rfl (lv_at hl 1 rfl) ?_
  refine gF_ff_tree X hP d_FF_requireOld_18 ?_
  refine lv_iload_n hx hb d_FF_requireOld_21 rfl (lv_at hl 2 rfl) ?_
  refine lv_iload_n hx hb d_FF_requireOld_22 rfl (lv_at hl 0 rfl) ?_
  obtain ⟨v2, e1, h⟩ := bd_some h
  refine fx_i X (fx_runV (As := [.int x1, .int v1]) X (m_Tre_idIn e1 _) hP hD kv_FF_165 ⟨Nat.le_of_ble_eq_true rfl, Nat.le_of_ble_eq_true rfl⟩ 7 rfl rfl rfl hl.1 rfl (Nat.le_of_ble_eq_true rfl) d_FF_requireOld_23) hD hS (fun H locs hP hD hS => ?_)
  obtain ⟨v3, e1, h⟩ := bd_some h
  refine fx_i X (fx_runV (As := [.int v2]) X (m_Tre_kindOf e1 _) hP hD kv_FF_240 ⟨Nat.le_of_ble_eq_true rfl, Nat.le_of_ble_eq_true rfl⟩ 7 rfl rfl rfl hl.1 rfl (Nat.le_of_ble_eq_true rfl) d_FF_requireOld_26) hD hS (fun H locs hP hD hS => ?_)
  refine lv_iload_n hx hb d_FF_requireOld_29 rfl (lv_at hl 3 rfl) ?_
  refine lv_icmp_eq (tgt := 44) hx hb d_FF_requireOld_30 (by decide) (fun hc => ?_) (fun hc => ?_)
  · have h := if_t hc h
    refine lv_iload_n hx hb d_FF_requireOld_44 rfl (lv_at hl 0 rfl) ?_
    cases h
    exact xx_iret X hP hD hS d_FF_requireOld_45
  · have h := if_f hc h
    cases h
    exact xx_throwW (k := 2) (ik := 119) (is := 293) (ic := 123) (text := "the name is not there, or of the other kind") (names := exN) X hE hZ htr (by decide) hP hD hS (by decide) (by decide) at_2_123 cl_119 in_E2 (List.mem_of_getElem? (i := 13) rfl) hl.1 d_FF_requireOld_33 d_FF_requireOld_36 d_FF_requireOld_37 d_FF_requireOld_40 d_FF_requireOld_43 ⟨⟨by decide, Nat.le_of_ble_eq_true rfl⟩, by decide, by decide⟩
theorem d_FF_unlink_0 : decode prog_1_method_8_code 0 = .ok (.aload_n 0, 1) := by decide +kernel
theorem d_FF_unlink_1 : decode prog_1_method_8_code 1 = .ok (.iload_n 1, 1) := by decide +kernel
theorem d_FF_unlink_2 : decode prog_1_method_8_code 2 = .ok (.aload_n 0, 1) := by decide +kernel
theorem d_FF_unlink_3 : decode prog_1_method_8_code 3 = .ok (.iload_n 2, 1) := by decide +kernel
theorem d_FF_unlink_4 : decode prog_1_method_8_code 4 = .ok (.invokevirtual 130, 3) := by decide +kernel
theorem d_FF_unlink_7 : decode prog_1_method_8_code 7 = .ok (.invokevirtual 159, 3) := by decide +kernel
theorem d_FF_unlink_10 : decode prog_1_method_8_code 10 = .ok (.aload_n 0, 1) := by decide +kernel
theorem d_FF_unlink_11 : decode prog_1_method_8_code 11 = .ok (.iload_n 1, 1) := by decide +kernel
theorem d_FF_unlink_12 : decode prog_1_method_8_code 12 = .ok (.iconst 1, 1) := by decide +kernel
theorem d_FF_unlink_13 : decode prog_1_method_8_code 13 = .ok (.invokevirtual 162, 3) := by decide +kernel
theorem d_FF_unlink_16 : decode prog_1_method_8_code 16 = .ok (.istore_n 3, 1) := by decide +kernel
theorem d_FF_unlink_17 : decode prog_1_method_8_code 17 = .ok (.aload_n 0, 1) := by decide +kernel
theorem d_FF_unlink_18 : decode prog_1_method_8_code 18 = .ok (.iconst 4, 1) := by decide +kernel
theorem d_FF_unlink_19 : decode prog_1_method_8_code 19 = .ok (.invokevirtual 141, 3) := by decide +kernel
theorem d_FF_unlink_22 : decode prog_1_method_8_code 22 = .ok (.aload_n 0, 1) := by decide +kernel
theorem d_FF_unlink_23 : decode prog_1_method_8_code 23 = .ok (.getfield 63, 3) := by decide +kernel
theorem d_FF_unlink_26 : decode prog_1_method_8_code 26 = .ok (.iload_n 1, 1) := by decide +kernel
theorem d_FF_unlink_27 : decode prog_1_method_8_code 27 = .ok (.iload_n 3, 1) := by decide +kernel
theorem d_FF_unlink_28 : decode prog_1_method_8_code 28 = .ok (.invokevirtual 165, 3) := by decide +kernel
theorem d_FF_unlink_31 : decode prog_1_method_8_code 31 = .ok (.istore 4, 2) := by decide +kernel
theorem d_FF_unlink_33 : decode prog_1_method_8_code 33 = .ok (.aload_n 0, 1) := by decide +kernel
theorem d_FF_unlink_34 : decode prog_1_method_8_code 34 = .ok (.getfield 63, 3) := by decide +kernel
theorem d_FF_unlink_37 : decode prog_1_method_8_code 37 = .ok (.iload_n 1, 1) := by decide +kernel
theorem d_FF_unlink_38 : decode prog_1_method_8_code 38 = .ok (.iload_n 3, 1) := by decide +kernel
theorem d_FF_unlink_39 : decode prog_1_method_8_code 39 = .ok (.invokevirtual 168, 3) := by decide +kernel
theorem d_FF_unlink_42 : decode prog_1_method_8_code 42 = .ok (.aload_n 0, 1) := by decide +kernel
theorem d_FF_unlink_43 : decode prog_1_method_8_code 43 = .ok (.iload 4, 2) := by decide +kernel
theorem d_FF_unlink_45 : decode prog_1_method_8_code 45 = .ok (.invokevirtual 171, 3) := by decide +kernel
theorem d_FF_unlink_48 : decode prog_1_method_8_code 48 = .ok (.ireturn, 1) := by decide +kernel
set_option maxHeartbeats 4000000 in
set_option maxRecDepth 100000 in
theorem m_FF_unlink {l : Launch} {D : va_G} {ad : Nat → Nat} {ca : Nat → ClassId} {FU : Nat} {x1 : Int32} {x2 : Int32} {g : St} {q : Nat × Int32 × St} (h : FF_unlink FU x1 x2 g = some q) : CX l ⟨"FlashFiles", "unlink", "(II)I"⟩ prog_1_method_8_code 5 10 (some .int) D (tyF ca) (wF ad ca g) [.ref (ad 0), .int x1, .int x2] q.1 (some (.int q.2.1)) (wF ad ca q.2.2) := by
  refine CX.fx (by decide) (Nat.le_of_ble_eq_true rfl) ?_
  intro p e s m below meth c A ls X hE hZ htr hP hD hl
  have hl : lv_has ls 5 [(0, .ref (ad 0)), (1, .int x1), (2, .int x2)] := hl
  have hS : va_S A s.heap s.heap [] := va_S.rf
  have hx := X.1
  have hb := X.2.1
  unfold FF_unlink at h
  refine lv_aload_n hx hb d_FF_unlink_0 rfl (lv_at hl 0 rfl) ?_
  refine lv_iload_n hx hb d_FF_unlink_1 rfl (lv_at hl 1 rfl) ?_
  refine lv_aload_n hx hb d_FF_unlink_2 rfl (lv_at hl 0 rfl) ?_
  refine lv_iload_n hx hb d_FF_unlink_3 rfl (lv_at hl 2 rfl) ?_
  obtain ⟨p1, e1, h⟩ := bd_some h
  refine xx_V (As := [.int x2]) X (m_FF_takeName e1) hZ htr hP hD hS kv_FF_130 ⟨⟨Nat.le_of_ble_eq_true rfl, Nat.le_of_ble_eq_true rfl⟩, Nat.le_of_ble_eq_true rfl, Nat.le_of_ble_eq_true rfl⟩ 0 rfl rfl rfl hl.1 rfl (Nat.le_of_ble_eq_true rfl) d_FF_unlink_4 (fun hk H locs hP hD hS => ?_) (fun hk H locs q9 ce hP hD hS hce hcv hcl => ?_)
  · have h := if_t hk h
    refine W.eq (g2 := F0 m 7 ls [.int p1.2.1, .int x1, .ref (ad 0)]) rfl ?_
    obtain ⟨p2, e1, h⟩ := bd_some h
    refine xx_V (As := [.int x1, .int p1.2.1]) X (m_FF_requireNamed e1) hZ htr hP hD hS kv_FF_159 ⟨⟨Nat.le_of_ble_eq_true rfl, Nat.le_of_ble_eq_true rfl⟩, Nat.le_of_ble_eq_true rfl, Nat.le_of_ble_eq_true rfl⟩ 0 rfl rfl rfl hl.1 rfl (Nat.le_of_ble_eq_true rfl) d_FF_unlink_7 (fun hk H locs hP hD hS => ?_) (fun hk H locs q9 ce hP hD hS hce hcv hcl => ?_)
    · have h := if_t hk h
      refine W.eq (g2 := F0 m 10 ls []) rfl ?_
      refine lv_aload_n hx hb d_FF_unlink_10 rfl (lv_at hl 0 rfl) ?_
      refine lv_iload_n hx hb d_FF_unlink_11 rfl (lv_at hl 1 rfl) ?_
      refine lv_iconst (v := 1) hx hb d_FF_unlink_12 (by decide) ?_
      obtain ⟨p3, e1, h⟩ := bd_some h
      refine xx_V (As := [.int x1, .int (1 : Int32)]) X (m_FF_requireOld e1) hZ htr hP hD hS kv_FF_162 ⟨⟨Nat.le_of_ble_eq_true rfl, Nat.le_of_ble_eq_true rfl⟩, Nat.le_of_ble_eq_true rfl, Nat.le_of_ble_eq_true rfl⟩ 0 rfl rfl rfl hl.1 rfl (Nat.le_of_ble_eq_true rfl) d_FF_unlink_13 (fun hk H locs hP hD hS => ?_) (fun hk H locs q9 ce hP hD hS hce hcv hcl => ?_)
      · have h := if_t hk h
        refine W.eq (g2 := F0 m 16 ls [.int p3.2.1]) rfl ?_
        refine lv_istore_n hx hb d_FF_unlink_16 rfl hl (by decide) rfl (fun ls hl => ?_)
        have hl : lv_has ls 5 [(3, .int p3.2.1), (0, .ref (ad 0)), (1, .int x1), (2, .int x2)] := hl
        refine lv_aload_n hx hb d_FF_unlink_17 rfl (lv_at hl 1 rfl) ?_
        refine lv_iconst (v := 4) hx hb d_FF_unlink_18 (by decide) ?_
        obtain ⟨p4, e1, h⟩ := bd_some h
        refine xx_V (As := [.int (4 : Int32)]) X (m_FF_reserve e1) hZ htr hP hD hS kv_FF_141 ⟨⟨Nat.le_of_ble_eq_true rfl, Nat.le_of_ble_eq_true rfl⟩, Nat.le_of_ble_eq_true rfl, Nat.le_of_ble_eq_true rfl⟩ 0 rfl rfl rfl hl.1 rfl (Nat.le_of_ble_eq_true rfl) d_FF_unlink_19 (fun hk H locs hP hD hS => ?_) (fun hk H locs q9 ce hP hD hS hce hcv hcl => ?_)
        · have h := if_t hk h
          refine W.eq (g2 := F0 m 22 ls []) rfl ?_
          refine lv_aload_n hx hb d_FF_unlink_22 rfl (lv_at hl 1 rfl) ?_
          refine gF_ff_tree X hP d_FF_unlink_23 ?_
          refine lv_iload_n hx hb d_FF_unlink_26 rfl (lv_at hl 2 rfl) ?_
          refine lv_iload_n hx hb d_FF_unlink_27 rfl (lv_at hl 0 rfl) ?_
          obtain ⟨v5, e1, h⟩ := bd_some h
          refine fx_i X (fx_runV (As := [.int x1, .int p3.2.1]) X (m_Tre_idIn e1 _) hP hD kv_FF_165 ⟨Nat.le_of_ble_eq_true rfl, Nat.le_of_ble_eq_true rfl⟩ 7 rfl rfl rfl hl.1 rfl (Nat.le_of_ble_eq_true rfl) d_FF_unlink_28) hD hS (fun H locs hP hD hS => ?_)
          refine lv_istore hx hb d_FF_unlink_31 hl (by decide) rfl (fun ls hl => ?_)
          have hl : lv_has ls 5 [(4, .int v5), (3, .int p3.2.1), (0, .ref (ad 0)), (1, .int x1), (2, .int x2)] := hl
          refine lv_aload_n hx hb d_FF_unlink_33 rfl (lv_at hl 2 rfl) ?_
          refine gF_ff_tree X hP d_FF_unlink_34 ?_
          refine lv_iload_n hx hb d_FF_unlink_37 rfl (lv_at hl 3 rfl) ?_
          refine lv_iload_n hx hb d_FF_unlink_38 rfl (lv_at hl 1 rfl) ?_
          obtain ⟨p6, e1, h⟩ := bd_some h
          refine fx_v X (fx_runV (As := [.int x1, .int p3.2.1]) X (m_Tre_dropName e1 _) hP hD kv_FF_168 ⟨Nat.le_of_ble_eq_true rfl, Nat.le_of_ble_eq_true rfl⟩ 7 rfl rfl rfl hl.1 rfl (Nat.le_of_ble_eq_true rfl) d_FF_unlink_39) hD hS (fun H locs hP hD hS => ?_)
          refine lv_aload_n hx hb d_FF_unlink_42 rfl (lv_at hl 2 rfl) ?_
          refine lv_iload hx hb d_FF_unlink_43 (lv_at hl 0 rfl) ?_
          obtain ⟨p7, e1, h⟩ := bd_some h
          refine fx_i X (fx_runV (As := [.int v5]) X (m_FF_loseLink e1 _) hP hD kv_FF_171 ⟨Nat.le_of_ble_eq_true rfl, Nat.le_of_ble_eq_true rfl⟩ 0 rfl rfl rfl hl.1 rfl (Nat.le_of_ble_eq_true rfl) d_FF_unlink_45) hD hS (fun H locs hP hD hS => ?_)
          cases h
          exact xx_iret X hP hD hS d_FF_unlink_48
        · have h := if_f hk h
          cases h
          exact xx_leave X hE hk hP hD hS hce hcv hcl (Nat.le_refl _) (Nat.le_refl _)
      · have h := if_f hk h
        cases h
        exact xx_leave X hE hk hP hD hS hce hcv hcl (Nat.le_refl _) (Nat.le_refl _)
    · have h := if_f hk h
      cases h
      exact xx_leave X hE hk hP hD hS hce hcv hcl (Nat.le_refl _) (Nat.le_refl _)
  · have h := if_f hk h
    cases h
    exact xx_leave X hE hk hP hD hS hce hcv hcl (Nat.le_refl _) (Nat.le_refl _)
theorem d_FF_removeDirectory_0 : decode prog_1_method_9_code 0 = .ok (.aload_n 0, 1) := by decide +kernel
theorem d_FF_removeDirectory_1 : decode prog_1_method_9_code 1 = .ok (.iload_n 1, 1) := by decide +kernel
theorem d_FF_removeDirectory_2 : decode prog_1_method_9_code 2 = .ok (.aload_n 0, 1) := by decide +kernel
theorem d_FF_removeDirectory_3 : decode prog_1_method_9_code 3 = .ok (.iload_n 2, 1) := by decide +kernel
theorem d_FF_removeDirectory_4 : decode prog_1_method_9_code 4 = .ok (.invokevirtual 130, 3) := by decide +kernel
theorem d_FF_removeDirectory_7 : decode prog_1_method_9_code 7 = .ok (.invokevirtual 159, 3) := by decide +kernel
theorem d_FF_removeDirectory_10 : decode prog_1_method_9_code 10 = .ok (.aload_n 0, 1) := by decide +kernel
theorem d_FF_removeDirectory_11 : decode prog_1_method_9_code 11 = .ok (.iload_n 1, 1) := by decide +kernel
theorem d_FF_removeDirectory_12 : decode prog_1_method_9_code 12 = .ok (.iconst 2, 1) := by decide +kernel
theorem d_FF_removeDirectory_13 : decode prog_1_method_9_code 13 = .ok (.invokevirtual 162, 3) := by decide +kernel
theorem d_FF_removeDirectory_16 : decode prog_1_method_9_code 16 = .ok (.istore_n 3, 1) := by decide +kernel
theorem d_FF_removeDirectory_17 : decode prog_1_method_9_code 17 = .ok (.aload_n 0, 1) := by decide +kernel
theorem d_FF_removeDirectory_18 : decode prog_1_method_9_code 18 = .ok (.getfield 63, 3) := by decide +kernel
theorem d_FF_removeDirectory_21 : decode prog_1_method_9_code 21 = .ok (.iload_n 1, 1) := by decide +kernel
theorem d_FF_removeDirectory_22 : decode prog_1_method_9_code 22 = .ok (.iload_n 3, 1) := by decide +kernel
theorem d_FF_removeDirectory_23 : decode prog_1_method_9_code 23 = .ok (.invokevirtual 165, 3) := by decide +kernel
theorem d_FF_removeDirectory_26 : decode prog_1_method_9_code 26 = .ok (.istore 4, 2) := by decide +kernel
theorem d_FF_removeDirectory_28 : decode prog_1_method_9_code 28 = .ok (.aload_n 0, 1) := by decide +kernel
theorem d_FF_removeDirectory_29 : decode prog_1_method_9_code 29 = .ok (.getfield 63, 3) := by decide +kernel
theorem d_FF_removeDirectory_32 : decode prog_1_method_9_code 32 = .ok (.iload 4, 2) := by decide +kernel
theorem d_FF_removeDirectory_34 : decode prog_1_method_9_code 34 = .ok (.iconst 1, 1) := by decide +kernel
theorem d_FF_removeDirectory_35 : decode prog_1_method_9_code 35 = .ok (.invokevirtual 175, 3) := by decide +kernel
theorem d_FF_removeDirectory_38 : decode prog_1_method_9_code 38 = .ok (.ifCond .le 13, 3) := by decide +kernel
theorem d_FF_removeDirectory_41 : decode prog_1_method_9_code 41 = .ok (.new 119, 3) := by decide +kernel
theorem d_FF_removeDirectory_44 : decode prog_1_method_9_code 44 = .ok (.dup, 1) := by decide +kernel
theorem d_FF_removeDirectory_45 : decode prog_1_method_9_code 45 = .ok (.ldc 178, 2) := by decide +kernel
theorem d_FF_removeDirectory_47 : decode prog_1_method_9_code 47 = .ok (.invokespecial 123, 3) := by decide +kernel
theorem d_FF_removeDirectory_50 : decode prog_1_method_9_code 50 = .ok (.athrow, 1) := by decide +kernel
theorem d_FF_removeDirectory_51 : decode prog_1_method_9_code 51 = .ok (.aload_n 0, 1) := by decide +kernel
theorem d_FF_removeDirectory_52 : decode prog_1_method_9_code 52 = .ok (.iconst 4, 1) := by decide +kernel
theorem d_FF_removeDirectory_53 : decode prog_1_method_9_code 53 = .ok (.invokevirtual 141, 3) := by decide +kernel
theorem d_FF_removeDirectory_56 : decode prog_1_method_9_code 56 = .ok (.aload_n 0, 1) := by decide +kernel
theorem d_FF_removeDirectory_57 : decode prog_1_method_9_code 57 = .ok (.getfield 63, 3) := by decide +kernel
theorem d_FF_removeDirectory_60 : decode prog_1_method_9_code 60 = .ok (.iload_n 1, 1) := by decide +kernel
theorem d_FF_removeDirectory_61 : decode prog_1_method_9_code 61 = .ok (.iload_n 3, 1) := by decide +kernel
theorem d_FF_removeDirectory_62 : decode prog_1_method_9_code 62 = .ok (.invokevirtual 168, 3) := by decide +kernel
theorem d_FF_removeDirectory_65 : decode prog_1_method_9_code 65 = .ok (.aload_n 0, 1) := by decide +kernel
theorem d_FF_removeDirectory_66 : decode prog_1_method_9_code 66 = .ok (.getfield 47, 3) := by decide +kernel
theorem d_FF_removeDirectory_69 : decode prog_1_method_9_code 69 = .ok (.iload 4, 2) := by decide +kernel
theorem d_FF_removeDirectory_71 : decode prog_1_method_9_code 71 = .ok (.invokevirtual 180, 3) := by decide +kernel
theorem d_FF_removeDirectory_74 : decode prog_1_method_9_code 74 = .ok (.return_, 1) := by decide +kernel
set_option maxHeartbeats 4000000 in
set_option maxRecDepth 100000 in
theorem m_FF_removeDirectory {l : Launch} {D : va_G} {ad : Nat → Nat} {ca : Nat → ClassId} {FU : Nat} {x1 : Int32} {x2 : Int32} {g : St} {q : Nat × Int32 × St} (h : FF_removeDirectory FU x1 x2 g = some q) : CX l ⟨"FlashFiles", "removeDirectory", "(II)V"⟩ prog_1_method_9_code 5 10 none D (tyF ca) (wF ad ca g) [.ref (ad 0), .int x1, .int x2] q.1 none (wF ad ca q.2.2) := by
  refine CX.fx (by decide) (Nat.le_of_ble_eq_true rfl) ?_
  intro p e s m below meth c A ls X hE hZ htr hP hD hl
  have hl : lv_has ls 5 [(0, .ref (ad 0)), (1, .int x1), (2, .int x2)] := hl
  have hS : va_S A s.heap s.heap [] := va_S.rf
  have hx := X.1
  have hb := X.2.1
  unfold FF_removeDirectory at h
  refine lv_aload_n hx hb d_FF_removeDirectory_0 rfl (lv_at hl 0 rfl) ?_
  refine lv_iload_n hx hb d_FF_removeDirectory_1 rfl (lv_at hl 1 rfl) ?_
  refine lv_aload_n hx hb d_FF_removeDirectory_2 rfl (lv_at hl 0 rfl) ?_
  refine lv_iload_n hx hb d_FF_removeDirectory_3 rfl (lv_at hl 2 rfl) ?_
  obtain ⟨p1, e1, h⟩ := bd_some h
  refine xx_V (As := [.int x2]) X (m_FF_takeName e1) hZ htr hP hD hS kv_FF_130 ⟨⟨Nat.le_of_ble_eq_true rfl, Nat.le_of_ble_eq_true rfl⟩, Nat.le_of_ble_eq_true rfl, Nat.le_of_ble_eq_true rfl⟩ 0 rfl rfl rfl hl.1 rfl (Nat.le_of_ble_eq_true rfl) d_FF_removeDirectory_4 (fun hk H locs hP hD hS => ?_) (fun hk H locs q9 ce hP hD hS hce hcv hcl => ?_)
  · have h := if_t hk h
    refine W.eq (g2 := F0 m 7 ls [.int p1.2.1, .int x1, .ref (ad 0)]) rfl ?_
    obtain ⟨p2, e1, h⟩ := bd_some h
    refine xx_V (As := [.int x1, .int p1.2.1]) X (m_FF_requireNamed e1) hZ htr hP hD hS kv_FF_159 ⟨⟨Nat.le_of_ble_eq_true rfl, Nat.le_of_ble_eq_true rfl⟩, Nat.le_of_ble_eq_true rfl, Nat.le_of_ble_eq_true rfl⟩ 0 rfl rfl rfl hl.1 rfl (Nat.le_of_ble_eq_true rfl) d_FF_removeDirectory_7 (fun hk H locs hP hD hS => ?_) (fun hk H locs q9 ce hP hD hS hce hcv hcl => ?_)
    · have h := if_t hk h
      refine W.eq (g2 := F0 m 10 ls []) rfl ?_
      refine lv_aload_n hx hb d_FF_removeDirectory_10 rfl (lv_at hl 0 rfl) ?_
      refine lv_iload_n hx hb d_FF_removeDirectory_11 rfl (lv_at hl 1 rfl) ?_
      refine lv_iconst (v := 2) hx hb d_FF_removeDirectory_12 (by decide) ?_
      obtain ⟨p3, e1, h⟩ := bd_some h
      refine xx_V (As := [.int x1, .int (2 : Int32)]) X (m_FF_requireOld e1) hZ htr hP hD hS kv_FF_162 ⟨⟨Nat.le_of_ble_eq_true rfl, Nat.le_of_ble_eq_true rfl⟩, Nat.le_of_ble_eq_true rfl, Nat.le_of_ble_eq_true rfl⟩ 0 rfl rfl rfl hl.1 rfl (Nat.le_of_ble_eq_true rfl) d_FF_removeDirectory_13 (fun hk H locs hP hD hS => ?_) (fun hk H locs q9 ce hP hD hS hce hcv hcl => ?_)
      · have h := if_t hk h
        refine W.eq (g2 := F0 m 16 ls [.int p3.2.1]) rfl ?_
        refine lv_istore_n hx hb d_FF_removeDirectory_16 rfl hl (by decide) rfl (fun ls hl => ?_)
        have hl : lv_has ls 5 [(3, .int p3.2.1), (0, .ref (ad 0)), (1, .int x1), (2, .int x2)] := hl
        refine lv_aload_n hx hb d_FF_removeDirectory_17 rfl (lv_at hl 1 rfl) ?_
        refine gF_ff_tree X hP d_FF_removeDirectory_18 ?_
        refine lv_iload_n hx hb d_FF_removeDirectory_21 rfl (lv_at hl 2 rfl) ?_
        refine lv_iload_n hx hb d_FF_removeDirectory_22 rfl (lv_at hl 0 rfl) ?_
        obtain ⟨v4, e1, h⟩ := bd_some h
        refine fx_i X (fx_runV (As := [.int x1, .int p3.2.1]) X (m_Tre_idIn e1 _) hP hD kv_FF_165 ⟨Nat.le_of_ble_eq_true rfl, Nat.le_of_ble_eq_true rfl⟩ 7 rfl rfl rfl hl.1 rfl (Nat.le_of_ble_eq_true rfl) d_FF_removeDirectory_23) hD hS (fun H locs hP hD hS => ?_)
        refine lv_istore hx hb d_FF_removeDirectory_26 hl (by decide) rfl (fun ls hl => ?_)
        have hl : lv_has ls 5 [(4, .int v4), (3, .int p3.2.1), (0, .ref (ad 0)), (1, .int x1), (2, .int x2)] := hl
        refine lv_aload_n hx hb d_FF_removeDirectory_28 rfl (lv_at hl 2 rfl) ?_
        refine gF_ff_tree X hP d_FF_removeDirectory_29 ?_
        refine lv_iload hx hb d_FF_removeDirectory_32 (lv_at hl 0 rfl) ?_
        refine lv_iconst (v := 1) hx hb d_FF_removeDirectory_34 (by decide) ?_
        obtain ⟨v5, e1, h⟩ := bd_some h
        refine fx_i X (fx_runV (As := [.int v4, .int (1 : Int32)]) X (m_Tre_wordOf e1 _) hP hD kv_FF_175 ⟨Nat.le_of_ble_eq_true rfl, Nat.le_of_ble_eq_true rfl⟩ 7 rfl rfl rfl hl.1 rfl (Nat.le_of_ble_eq_true rfl) d_FF_removeDirectory_35) hD hS (fun H locs hP hD hS => ?_)
        refine lv_if_le (tgt := 51) hx hb d_FF_removeDirectory_38 (by decide) (fun hc => ?_) (fun hc => ?_)
        · have h := if_t hc h
          refine lv_aload_n hx hb d_FF_removeDirectory_51 rfl (lv_at hl 2 rfl) ?_
          refine lv_iconst (v := 4) hx hb d_FF_removeDirectory_52 (by decide) ?_
          obtain ⟨p6, e1, h⟩ := bd_some h
          refine xx_V (As := [.int (4 : Int32)]) X (m_FF_reserve e1) hZ htr hP hD hS kv_FF_141 ⟨⟨Nat.le_of_ble_eq_true rfl, Nat.le_of_ble_eq_true rfl⟩, Nat.le_of_ble_eq_true rfl, Nat.le_of_ble_eq_true rfl⟩ 0 rfl rfl rfl hl.1 rfl (Nat.le_of_ble_eq_true rfl) d_FF_removeDirectory_53 (fun hk H locs hP hD hS => ?_) (fun hk H locs q9 ce hP hD hS hce hcv hcl => ?_)
          · have h := if_t hk h
            refine W.eq (g2 := F0 m 56 ls []) rfl ?_
            refine lv_aload_n hx hb d_FF_removeDirectory_56 rfl (lv_at hl 2 rfl) ?_
            refine gF_ff_tree X hP d_FF_removeDirectory_57 ?_
            refine lv_iload_n hx hb d_FF_removeDirectory_60 rfl (lv_at hl 3 rfl) ?_
            refine lv_iload_n hx hb d_FF_removeDirectory_61 rfl (lv_at hl 1 rfl) ?_
            obtain ⟨p7, e1, h⟩ := bd_some h
            refine fx_v X (fx_runV (As := [.int x1, .int p3.2.1]) X (m_Tre_dropName e1 _) hP hD kv_FF_168 ⟨Nat.le_of_ble_eq_true rfl, Nat.le_of_ble_eq_true rfl⟩ 7 rfl rfl rfl hl.1 rfl (Nat.le_of_ble_eq_true rfl) d_FF_removeDirectory_62) hD hS (fun H locs hP hD hS => ?_)
            refine lv_aload_n hx hb d_FF_removeDirectory_65 rfl (lv_at hl 2 rfl) ?_
            refine gF_ff_log X hP d_FF_removeDirectory_66 ?_
            refine lv_iload hx hb d_FF_removeDirectory_69 (lv_at hl 0 rfl) ?_
            obtain ⟨p8, e1, h⟩ := bd_some h
            refine fx_v X (fx_runV (As := [.int v4]) X (m_Log_dropNode e1 _) hP hD kv_FF_180 ⟨Nat.le_of_ble_eq_true rfl, Nat.le_of_ble_eq_true rfl⟩ 5 rfl rfl rfl hl.1 rfl (Nat.le_of_ble_eq_true rfl) d_FF_removeDirectory_71) hD hS (fun H locs hP hD hS => ?_)
            cases h
            exact xx_vret X hP hD hS d_FF_removeDirectory_74
          · have h := if_f hk h
            cases h
            exact xx_leave X hE hk hP hD hS hce hcv hcl (Nat.le_refl _) (Nat.le_refl _)
        · have h := if_f hc h
          cases h
          exact xx_throwS (k := 2) (ik := 119) (is := 178) (ic := 123) (text := "the directory has names") (names := exN) X hE hZ htr (by decide) hP hD hS (by decide) (by decide) at_2_123 cl_119 in_E2 (List.mem_of_getElem? (i := 14) rfl) hl.1 d_FF_removeDirectory_41 d_FF_removeDirectory_44 d_FF_removeDirectory_45 d_FF_removeDirectory_47 d_FF_removeDirectory_50 ⟨⟨by decide, Nat.le_of_ble_eq_true rfl⟩, by decide, by decide⟩
      · have h := if_f hk h
        cases h
        exact xx_leave X hE hk hP hD hS hce hcv hcl (Nat.le_refl _) (Nat.le_refl _)
    · have h := if_f hk h
      cases h
      exact xx_leave X hE hk hP hD hS hce hcv hcl (Nat.le_refl _) (Nat.le_refl _)
  · have h := if_f hk h
    cases h
    exact xx_leave X hE hk hP hD hS hce hcv hcl (Nat.le_refl _) (Nat.le_refl _)
theorem d_FF_lose_0 : decode prog_1_method_39_code 0 = .ok (.aload_n 0, 1) := by decide +kernel
theorem d_FF_lose_1 : decode prog_1_method_39_code 1 = .ok (.getfield 63, 3) := by decide +kernel
theorem d_FF_lose_4 : decode prog_1_method_39_code 4 = .ok (.iload_n 1, 1) := by decide +kernel
theorem d_FF_lose_5 : decode prog_1_method_39_code 5 = .ok (.invokevirtual 240, 3) := by decide +kernel
theorem d_FF_lose_8 : decode prog_1_method_39_code 8 = .ok (.iconst 2, 1) := by decide +kernel
theorem d_FF_lose_9 : decode prog_1_method_39_code 9 = .ok (.if_icmp .ne 14, 3) := by decide +kernel
theorem d_FF_lose_12 : decode prog_1_method_39_code 12 = .ok (.aload_n 0, 1) := by decide +kernel
theorem d_FF_lose_13 : decode prog_1_method_39_code 13 = .ok (.getfield 47, 3) := by decide +kernel
theorem d_FF_lose_16 : decode prog_1_method_39_code 16 = .ok (.iload_n 1, 1) := by decide +kernel
theorem d_FF_lose_17 : decode prog_1_method_39_code 17 = .ok (.invokevirtual 180, 3) := by decide +kernel
theorem d_FF_lose_20 : decode prog_1_method_39_code 20 = .ok (.goto 9, 3) := by decide +kernel
theorem d_FF_lose_23 : decode prog_1_method_39_code 23 = .ok (.aload_n 0, 1) := by decide +kernel
theorem d_FF_lose_24 : decode prog_1_method_39_code 24 = .ok (.iload_n 1, 1) := by decide +kernel
theorem d_FF_lose_25 : decode prog_1_method_39_code 25 = .ok (.invokevirtual 171, 3) := by decide +kernel
theorem d_FF_lose_28 : decode prog_1_method_39_code 28 = .ok (.pop, 1) := by decide +kernel
theorem d_FF_lose_29 : decode prog_1_method_39_code 29 = .ok (.return_, 1) := by decide +kernel
set_option maxHeartbeats 4000000 in
set_option maxRecDepth 100000 in
theorem m_FF_lose {l : Launch} {D : va_G} {ad : Nat → Nat} {ca : Nat → ClassId} {FU : Nat} {x1 : Int32} {g : St} {q : St} (h : FF_lose FU x1 g = some q) : CV l ⟨"FlashFiles", "lose", "(I)V"⟩ prog_1_method_39_code 2 7 D (tyF ca) (wF ad ca g) [.ref (ad 0), .int x1] (wF ad ca q) := by
  intro sz
  refine Met.fx (Qc := fun A => fxQv D (tyF ca) A (wF ad ca q)) (by decide) (Nat.le_of_ble_eq_true rfl) ?_
  intro p e s m below meth c A ls X hP hD hl
  have hl : lv_has ls 2 [(0, .ref (ad 0)), (1, .int x1)] := hl
  have hS : va_S A s.heap s.heap [] := va_S.rf
  have hx := X.1
  have hb := X.2.1
  unfold FF_lose at h
  refine lv_aload_n hx hb d_FF_lose_0 rfl (lv_at hl 0 rfl) ?_
  refine gF_ff_tree X hP d_FF_lose_1 ?_
  refine lv_iload_n hx hb d_FF_lose_4 rfl (lv_at hl 1 rfl) ?_
  obtain ⟨v1, e1, h⟩ := bd_some h
  refine fx_i X (fx_runV (As := [.int x1]) X (m_Tre_kindOf e1 _) hP hD kv_FF_240 ⟨Nat.le_of_ble_eq_true rfl, Nat.le_of_ble_eq_true rfl⟩ 7 rfl rfl rfl hl.1 rfl (Nat.le_of_ble_eq_true rfl) d_FF_lose_5) hD hS (fun H locs hP hD hS => ?_)
  refine lv_iconst (v := 2) hx hb d_FF_lose_8 (by decide) ?_
  refine lv_icmp_ne (tgt := 23) hx hb d_FF_lose_9 (by decide) (fun hc => ?_) (fun hc => ?_)
  · have h := if_f hc h
    refine lv_aload_n hx hb d_FF_lose_23 rfl (lv_at hl 0 rfl) ?_
    refine lv_iload_n hx hb d_FF_lose_24 rfl (lv_at hl 1 rfl) ?_
    obtain ⟨p2, e1, h⟩ := bd_some h
    refine fx_i X (fx_runV (As := [.int x1]) X (m_FF_loseLink e1 _) hP hD kv_FF_171 ⟨Nat.le_of_ble_eq_true rfl, Nat.le_of_ble_eq_true rfl⟩ 0 rfl rfl rfl hl.1 rfl (Nat.le_of_ble_eq_true rfl) d_FF_lose_25) hD hS (fun H locs hP hD hS => ?_)
    refine lv_pop hx hb d_FF_lose_28 rfl ?_
    cases h
    exact fx_vret X hP hD hS d_FF_lose_29
  · have h := if_t hc h
    refine lv_aload_n hx hb d_FF_lose_12 rfl (lv_at hl 0 rfl) ?_
    refine gF_ff_log X hP d_FF_lose_13 ?_
    refine lv_iload_n hx hb d_FF_lose_16 rfl (lv_at hl 1 rfl) ?_
    obtain ⟨p3, e1, h⟩ := bd_some h
    refine fx_v X (fx_runV (As := [.int x1]) X (m_Log_dropNode e1 _) hP hD kv_FF_180 ⟨Nat.le_of_ble_eq_true rfl, Nat.le_of_ble_eq_true rfl⟩ 5 rfl rfl rfl hl.1 rfl (Nat.le_of_ble_eq_true rfl) d_FF_lose_17) hD hS (fun H locs hP hD hS => ?_)
    refine lv_goto (tgt := 29) hx hb d_FF_lose_20 (by decide) ?_
    cases h
    exact fx_vret X hP hD hS d_FF_lose_29
theorem d_FF_requireMovable_0 : decode prog_1_method_32_code 0 = .ok (.iload_n 1, 1) := by decide +kernel
theorem d_FF_requireMovable_1 : decode prog_1_method_32_code 1 = .ok (.ifCond .ne 14, 3) := by decide +kernel
theorem d_FF_requireMovable_4 : decode prog_1_method_32_code 4 = .ok (.new 119, 3) := by decide +kernel
theorem d_FF_requireMovable_7 : decode prog_1_method_32_code 7 = .ok (.dup, 1) := by decide +kernel
theorem d_FF_requireMovable_8 : decode prog_1_method_32_code 8 = .ok (.ldc_w 295, 3) := by decide +kernel
theorem d_FF_requireMovable_11 : decode prog_1_method_32_code 11 = .ok (.invokespecial 123, 3) := by decide +kernel
theorem d_FF_requireMovable_14 : decode prog_1_method_32_code 14 = .ok (.athrow, 1) := by decide +kernel
theorem d_FF_requireMovable_15 : decode prog_1_method_32_code 15 = .ok (.aload_n 0, 1) := by decide +kernel
theorem d_FF_requireMovable_16 : decode prog_1_method_32_code 16 = .ok (.getfield 63, 3) := by decide +kernel
theorem d_FF_requireMovable_19 : decode prog_1_method_32_code 19 = .ok (.iload_n 2, 1) := by decide +kernel
theorem d_FF_requireMovable_20 : decode prog_1_method_32_code 20 = .ok (.invokevirtual 240, 3) := by decide +kernel
theorem d_FF_requireMovable_23 : decode prog_1_method_32_code 23 = .ok (.istore_n 3, 1) := by decide +kernel
theorem d_FF_requireMovable_24 : decode prog_1_method_32_code 24 = .ok (.iload_n 2, 1) := by decide +kernel
theorem d_FF_requireMovable_25 : decode prog_1_method_32_code 25 = .ok (.ifCond .eq 26, 3) := by decide +kernel
theorem d_FF_requireMovable_28 : decode prog_1_method_32_code 28 = .ok (.iload_n 3, 1) := by decide +kernel
theorem d_FF_requireMovable_29 : decode prog_1_method_32_code 29 = .ok (.aload_n 0, 1) := by decide +kernel
theorem d_FF_requireMovable_30 : decode prog_1_method_32_code 30 = .ok (.getfield 63, 3) := by decide +kernel
theorem d_FF_requireMovable_33 : decode prog_1_method_32_code 33 = .ok (.iload_n 1, 1) := by decide +kernel
theorem d_FF_requireMovable_34 : decode prog_1_method_32_code 34 = .ok (.invokevirtual 240, 3) := by decide +kernel
theorem d_FF_requireMovable_37 : decode prog_1_method_32_code 37 = .ok (.if_icmp .eq 14, 3) := by decide +kernel
theorem d_FF_requireMovable_40 : decode prog_1_method_32_code 40 = .ok (.new 119, 3) := by decide +kernel
theorem d_FF_requireMovable_43 : decode prog_1_method_32_code 43 = .ok (.dup, 1) := by decide +kernel
theorem d_FF_requireMovable_44 : decode prog_1_method_32_code 44 = .ok (.ldc_w 297, 3) := by decide +kernel
theorem d_FF_requireMovable_47 : decode prog_1_method_32_code 47 = .ok (.invokespecial 123, 3) := by decide +kernel
theorem d_FF_requireMovable_50 : decode prog_1_method_32_code 50 = .ok (.athrow, 1) := by decide +kernel
theorem d_FF_requireMovable_51 : decode prog_1_method_32_code 51 = .ok (.iload_n 3, 1) := by decide +kernel
theorem d_FF_requireMovable_52 : decode prog_1_method_32_code 52 = .ok (.iconst 2, 1) := by decide +kernel
theorem d_FF_requireMovable_53 : decode prog_1_method_32_code 53 = .ok (.if_icmp .ne 26, 3) := by decide +kernel
theorem d_FF_requireMovable_56 : decode prog_1_method_32_code 56 = .ok (.aload_n 0, 1) := by decide +kernel
theorem d_FF_requireMovable_57 : decode prog_1_method_32_code 57 = .ok (.getfield 63, 3) := by decide +kernel
theorem d_FF_requireMovable_60 : decode prog_1_method_32_code 60 = .ok (.iload_n 2, 1) := by decide +kernel
theorem d_FF_requireMovable_61 : decode prog_1_method_32_code 61 = .ok (.iconst 1, 1) := by decide +kernel
theorem d_FF_requireMovable_62 : decode prog_1_method_32_code 62 = .ok (.invokevirtual 175, 3) := by decide +kernel
theorem d_FF_requireMovable_65 : decode prog_1_method_32_code 65 = .ok (.ifCond .le 14, 3) := by decide +kernel
theorem d_FF_requireMovable_68 : decode prog_1_method_32_code 68 = .ok (.new 119, 3) := by decide +kernel
theorem d_FF_requireMovable_71 : decode prog_1_method_32_code 71 = .ok (.dup, 1) := by decide +kernel
theorem d_FF_requireMovable_72 : decode prog_1_method_32_code 72 = .ok (.ldc_w 299, 3) := by decide +kernel
theorem d_FF_requireMovable_75 : decode prog_1_method_32_code 75 = .ok (.invokespecial 123, 3) := by decide +kernel
theorem d_FF_requireMovable_78 : decode prog_1_method_32_code 78 = .ok (.athrow, 1) := by decide +kernel
theorem d_FF_requireMovable_79 : decode prog_1_method_32_code 79 = .ok (.return_, 1) := by decide +kernel
set_option maxHeartbeats 4000000 in
set_option maxRecDepth 100000 in
theorem v_FF_requireMovable_51 {p : Program} {l : Launch} {e : Env} {s : State} {m : MethodId} {args : Array Value} {below : List Frame} {meth : Method} {c : Code} {D : va_G} {ad : Nat → Nat} {ca : Nat → ClassId} {A : Nat → Prop} {FU : Nat} {q : Nat × Int32 × St} (X : FX p s m meth c prog_1_method_32_code 4 none "FlashFiles" D (tyF ca) A) (hE : ∀ x ∈ c.exceptionTable.toList, False) (hZ : ZS A s) (htr : l.stackTraces = false) {y2 : Int32} {y3 : Int32} {g : St} {H : Heap} {locs : List Loc} {ls : Array Slot} (hP : va_P D cls (wF ad ca g) H) (hD : va_D A (wF ad ca g)) (hS : va_S A s.heap H locs) (hl : lv_has ls 4 [(0, .ref (ad 0)), (2, .int y2), (3, .int y3)]) (h : FF_requireMovable_b51 FU y2 y3 g = some q) : W p l e (rmX 6) s m args below meth c H locs 0 0 (XQ below D (tyF ca) A (wF ad ca q.2.2) q.1 none s) (F0 m 51 ls []) := by
  have hx := X.1
  have hb := X.2.1
  unfold FF_requireMovable_b51 at h
  refine lv_iload_n hx hb d_FF_requireMovable_51 rfl (lv_at hl 2 rfl) ?_
  refine lv_iconst (v := 2) hx hb d_FF_requireMovable_52 (by decide) ?_
  refine lv_icmp_ne (tgt := 79) hx hb d_FF_requireMovable_53 (by decide) (fun hc => ?_) (fun hc => ?_)
  · have h := if_f hc h
    cases h
    exact xx_vret X hP hD hS d_FF_requireMovable_79
  · have h := if_t hc h
    refine lv_aload_n hx hb d_FF_requireMovable_56 rfl (lv_at hl 0 rfl) ?_
    refine gF_ff_tree X hP d_FF_requireMovable_57 ?_
    refine lv_iload_n hx hb d_FF_requireMovable_60 rfl (lv_at hl 1 rfl) ?_
    refine lv_iconst (v := 1) hx hb d_FF_requireMovable_61 (by decide) ?_
    obtain ⟨v1, e1, h⟩ := bd_some h
    refine fx_i X (fx_runV (As := [.int y2, .int (1 : Int32)]) X (m_Tre_wordOf e1 _) hP hD kv_FF_175 ⟨Nat.le_of_ble_eq_true rfl, Nat.le_of_ble_eq_true rfl⟩ 7 rfl rfl rfl hl.1 rfl (Nat.le_of_ble_eq_true rfl) d_FF_requireMovable_62) hD hS (fun H locs hP hD hS => ?_)
    refine lv_if_le (tgt := 79) hx hb d_FF_requireMovable_65 (by decide) (fun hc => ?_) (fun hc => ?_)
    · have h := if_t hc h
      cases h
      exact xx_vret X hP hD hS d_FF_requireMovable_79
    · have h := if_f hc h
      cases h
      exact xx_throwW (k := 2) (ik := 119) (is := 299) (ic := 123) (text := "the second name's directory has names") (names := exN) X hE hZ htr (by decide) hP hD hS (by decide) (by decide) at_2_123 cl_119 in_E2 (List.mem_of_getElem? (i := 17) rfl) hl.1 d_FF_requireMovable_68 d_FF_requireMovable_71 d_FF_requireMovable_72 d_FF_requireMovable_75 d_FF_requireMovable_78 ⟨⟨by decide, Nat.le_of_ble_eq_true rfl⟩, by decide, by decide⟩
set_option maxHeartbeats 4000000 in
set_option maxRecDepth 100000 in
theorem m_FF_requireMovable {l : Launch} {D : va_G} {ad : Nat → Nat} {ca : Nat → ClassId} {FU : Nat} {x1 : Int32} {x2 : Int32} {g : St} {q : Nat × Int32 × St} (h : FF_requireMovable FU x1 x2 g = some q) : CX l ⟨"FlashFiles", "requireMovable", "(II)V"⟩ prog_1_method_32_code 4 6 none D (tyF ca) (wF ad ca g) [.ref (ad 0), .int x1, .int x2] q.1 none (wF ad ca q.2.2) := by
  refine CX.fx (by decide) (Nat.le_of_ble_eq_true rfl) ?_
  intro p e s m below meth c A ls X hE hZ htr hP hD hl
  have hl : lv_has ls 4 [(0, .ref (ad 0)), (1, .int x1), (2, .int x2)] := hl
  have hS : va_S A s.heap s.heap [] := va_S.rf
  have hx := X.1
  have hb := X.2.1
  unfold FF_requireMovable at h
  refine lv_iload_n hx hb d_FF_requireMovable_0 rfl (lv_at hl 1 rfl) ?_
  refine lv_if_ne (tgt := 15) hx hb d_FF_requireMovable_1 (by decide) (fun hc => ?_) (fun hc => ?_)
  · have h := if_f hc h
    refine lv_aload_n hx hb d_FF_requireMovable_15 rfl (lv_at hl 0 rfl) ?_
    refine gF_ff_tree X hP d_FF_requireMovable_16 ?_
    refine lv_iload_n hx hb d_FF_requireMovable_19 rfl (lv_at hl 2 rfl) ?_
    obtain ⟨v2, e1, h⟩ := bd_some h
    refine fx_i X (fx_runV (As := [.int x2]) X (m_Tre_kindOf e1 _) hP hD kv_FF_240 ⟨Nat.le_of_ble_eq_true rfl, Nat.le_of_ble_eq_true rfl⟩ 7 rfl rfl rfl hl.1 rfl (Nat.le_of_ble_eq_true rfl) d_FF_requireMovable_20) hD hS (fun H locs hP hD hS => ?_)
    refine lv_istore_n hx hb d_FF_requireMovable_23 rfl hl (by decide) rfl (fun ls hl => ?_)
    have hl : lv_has ls 4 [(3, .int v2), (0, .ref (ad 0)), (1, .int x1), (2, .int x2)] := hl
    refine lv_iload_n hx hb d_FF_requireMovable_24 rfl (lv_at hl 3 rfl) ?_
    refine lv_if_eq (tgt := 51) hx hb d_FF_requireMovable_25 (by decide) (fun hc => ?_) (fun hc => ?_)
    · have h := if_t hc h
      exact v_FF_requireMovable_51 X  hE hZ htr hP hD hS (lv_sub hl [1, 3, 0] rfl) h
    · have h := if_f hc h
      refine lv_iload_n hx hb d_FF_requireMovable_28 rfl (lv_at hl 0 rfl) ?_
      refine lv_aload_n hx hb d_FF_requireMovable_29 rfl (lv_at hl 1 rfl) ?_
      refine gF_ff_tree X hP d_FF_requireMovable_30 ?_
      refine lv_iload_n hx hb d_FF_requireMovable_33 rfl (lv_at hl 2 rfl) ?_
      obtain ⟨v3, e1, h⟩ := bd_some h
      refine fx_i X (fx_runV (As := [.int x1]) X (m_Tre_kindOf e1 _) hP hD kv_FF_240 ⟨Nat.le_of_ble_eq_true rfl, Nat.le_of_ble_eq_true rfl⟩ 7 rfl rfl rfl hl.1 rfl (Nat.le_of_ble_eq_true rfl) d_FF_requireMovable_34) hD hS (fun H locs hP hD hS => ?_)
      refine lv_icmp_eq (tgt := 51) hx hb d_FF_requireMovable_37 (by decide) (fun hc => ?_) (fun hc => ?_)
      · have h := if_t hc h
        exact v_FF_requireMovable_51 X  hE hZ htr hP hD hS (lv_sub hl [1, 3, 0] rfl) h
      · have h := if_f hc h
        cases h
        exact xx_throwW (k := 2) (ik := 119) (is := 297) (ic := 123) (text := "the second name is of the other kind") (names := exN) X hE hZ htr (by decide) hP hD hS (by decide) (by decide) at_2_123 cl_119 in_E2 (List.mem_of_getElem? (i := 16) rfl) hl.1 d_FF_requireMovable_40 d_FF_requireMovable_43 d_FF_requireMovable_44 d_FF_requireMovable_47 d_FF_requireMovable_50 ⟨⟨by decide, Nat.le_of_ble_eq_true rfl⟩, by decide, by decide⟩
  · have h := if_t hc h
    cases h
    exact xx_throwW (k := 2) (ik := 119) (is := 295) (ic := 123) (text := "the name is not there") (names := exN) X hE hZ htr (by decide) hP hD hS (by decide) (by decide) at_2_123 cl_119 in_E2 (List.mem_of_getElem? (i := 15) rfl) hl.1 d_FF_requireMovable_4 d_FF_requireMovable_7 d_FF_requireMovable_8 d_FF_requireMovable_11 d_FF_requireMovable_14 ⟨⟨by decide, Nat.le_of_ble_eq_true rfl⟩, by decide, by decide⟩
theorem d_FF_requireTarget_0 : decode prog_1_method_33_code 0 = .ok (.iload 4, 2) := by decide +kernel
theorem d_FF_requireTarget_2 : decode prog_1_method_33_code 2 = .ok (.ifCond .ne 33, 3) := by decide +kernel
theorem d_FF_requireTarget_5 : decode prog_1_method_33_code 5 = .ok (.iload_n 2, 1) := by decide +kernel
theorem d_FF_requireTarget_6 : decode prog_1_method_33_code 6 = .ok (.iload_n 1, 1) := by decide +kernel
theorem d_FF_requireTarget_7 : decode prog_1_method_33_code 7 = .ok (.if_icmp .eq 28, 3) := by decide +kernel
theorem d_FF_requireTarget_10 : decode prog_1_method_33_code 10 = .ok (.aload_n 0, 1) := by decide +kernel
theorem d_FF_requireTarget_11 : decode prog_1_method_33_code 11 = .ok (.getfield 63, 3) := by decide +kernel
theorem d_FF_requireTarget_14 : decode prog_1_method_33_code 14 = .ok (.iload_n 2, 1) := by decide +kernel
theorem d_FF_requireTarget_15 : decode prog_1_method_33_code 15 = .ok (.iconst 1, 1) := by decide +kernel
theorem d_FF_requireTarget_16 : decode prog_1_method_33_code 16 = .ok (.invokevirtual 175, 3) := by decide +kernel
theorem d_FF_requireTarget_19 : decode prog_1_method_33_code 19 = .ok (.bipush 48, 2) := by decide +kernel
theorem d_FF_requireTarget_21 : decode prog_1_method_33_code 21 = .ok (.if_icmp .lt 14, 3) := by decide +kernel
theorem d_FF_requireTarget_24 : decode prog_1_method_33_code 24 = .ok (.new 119, 3) := by decide +kernel
theorem d_FF_requireTarget_27 : decode prog_1_method_33_code 27 = .ok (.dup, 1) := by decide +kernel
theorem d_FF_requireTarget_28 : decode prog_1_method_33_code 28 = .ok (.ldc_w 301, 3) := by decide +kernel
theorem d_FF_requireTarget_31 : decode prog_1_method_33_code 31 = .ok (.invokespecial 123, 3) := by decide +kernel
theorem d_FF_requireTarget_34 : decode prog_1_method_33_code 34 = .ok (.athrow, 1) := by decide +kernel
theorem d_FF_requireTarget_35 : decode prog_1_method_33_code 35 = .ok (.aload_n 0, 1) := by decide +kernel
theorem d_FF_requireTarget_36 : decode prog_1_method_33_code 36 = .ok (.getfield 63, 3) := by decide +kernel
theorem d_FF_requireTarget_39 : decode prog_1_method_33_code 39 = .ok (.iload_n 3, 1) := by decide +kernel
theorem d_FF_requireTarget_40 : decode prog_1_method_33_code 40 = .ok (.invokevirtual 240, 3) := by decide +kernel
theorem d_FF_requireTarget_43 : decode prog_1_method_33_code 43 = .ok (.iconst 2, 1) := by decide +kernel
theorem d_FF_requireTarget_44 : decode prog_1_method_33_code 44 = .ok (.if_icmp .ne 26, 3) := by decide +kernel
theorem d_FF_requireTarget_47 : decode prog_1_method_33_code 47 = .ok (.aload_n 0, 1) := by decide +kernel
theorem d_FF_requireTarget_48 : decode prog_1_method_33_code 48 = .ok (.getfield 63, 3) := by decide +kernel
theorem d_FF_requireTarget_51 : decode prog_1_method_33_code 51 = .ok (.iload_n 2, 1) := by decide +kernel
theorem d_FF_requireTarget_52 : decode prog_1_method_33_code 52 = .ok (.iload_n 3, 1) := by decide +kernel
theorem d_FF_requireTarget_53 : decode prog_1_method_33_code 53 = .ok (.invokevirtual 303, 3) := by decide +kernel
theorem d_FF_requireTarget_56 : decode prog_1_method_33_code 56 = .ok (.ifCond .eq 14, 3) := by decide +kernel
theorem d_FF_requireTarget_59 : decode prog_1_method_33_code 59 = .ok (.new 119, 3) := by decide +kernel
theorem d_FF_requireTarget_62 : decode prog_1_method_33_code 62 = .ok (.dup, 1) := by decide +kernel
theorem d_FF_requireTarget_63 : decode prog_1_method_33_code 63 = .ok (.ldc_w 306, 3) := by decide +kernel
theorem d_FF_requireTarget_66 : decode prog_1_method_33_code 66 = .ok (.invokespecial 123, 3) := by decide +kernel
theorem d_FF_requireTarget_69 : decode prog_1_method_33_code 69 = .ok (.athrow, 1) := by decide +kernel
theorem d_FF_requireTarget_70 : decode prog_1_method_33_code 70 = .ok (.return_, 1) := by decide +kernel
set_option maxHeartbeats 4000000 in
set_option maxRecDepth 100000 in
theorem v_FF_requireTarget_35 {p : Program} {l : Launch} {e : Env} {s : State} {m : MethodId} {args : Array Value} {below : List Frame} {meth : Method} {c : Code} {D : va_G} {ad : Nat → Nat} {ca : Nat → ClassId} {A : Nat → Prop} {FU : Nat} {q : Nat × Int32 × St} (X : FX p s m meth c prog_1_method_33_code 5 none "FlashFiles" D (tyF ca) A) (hE : ∀ x ∈ c.exceptionTable.toList, False) (hZ : ZS A s) (htr : l.stackTraces = false) {y2 : Int32} {y3 : Int32} {g : St} {H : Heap} {locs : List Loc} {ls : Array Slot} (hP : va_P D cls (wF ad ca g) H) (hD : va_D A (wF ad ca g)) (hS : va_S A s.heap H locs) (hl : lv_has ls 5 [(0, .ref (ad 0)), (2, .int y2), (3, .int y3)]) (h : FF_requireTarget_b35 FU y2 y3 g = some q) : W p l e (rmX 6) s m args below meth c H locs 0 0 (XQ below D (tyF ca) A (wF ad ca q.2.2) q.1 none s) (F0 m 35 ls []) := by
  have hx := X.1
  have hb := X.2.1
  unfold FF_requireTarget_b35 at h
  refine lv_aload_n hx hb d_FF_requireTarget_35 rfl (lv_at hl 0 rfl) ?_
  refine gF_ff_tree X hP d_FF_requireTarget_36 ?_
  refine lv_iload_n hx hb d_FF_requireTarget_39 rfl (lv_at hl 2 rfl) ?_
  obtain ⟨v1, e1, h⟩ := bd_some h
  refine fx_i X (fx_runV (As := [.int y3]) X (m_Tre_kindOf e1 _) hP hD kv_FF_240 ⟨Nat.le_of_ble_eq_true rfl, Nat.le_of_ble_eq_true rfl⟩ 7 rfl rfl rfl hl.1 rfl (Nat.le_of_ble_eq_true rfl) d_FF_requireTarget_40) hD hS (fun H locs hP hD hS => ?_)
  refine lv_iconst (v := 2) hx hb d_FF_requireTarget_43 (by decide) ?_
  refine lv_icmp_ne (tgt := 70) hx hb d_FF_requireTarget_44 (by decide) (fun hc => ?_) (fun hc => ?_)
  · have h := if_f hc h
    cases h
    exact xx_vret X hP hD hS d_FF_requireTarget_70
  · have h := if_t hc h
    refine lv_aload_n hx hb d_FF_requireTarget_47 rfl (lv_at hl 0 rfl) ?_
    refine gF_ff_tree X hP d_FF_requireTarget_48 ?_
    refine lv_iload_n hx hb d_FF_requireTarget_51 rfl (lv_at hl 1 rfl) ?_
    refine lv_iload_n hx hb d_FF_requireTarget_52 rfl (lv_at hl 2 rfl) ?_
    obtain ⟨v2, e1, h⟩ := bd_some h
    refine fx_i X (fx_runV (As := [.int y2, .int y3]) X (m_Tre_isWithin e1 _) hP hD kv_FF_303 ⟨Nat.le_of_ble_eq_true rfl, Nat.le_of_ble_eq_true rfl⟩ 7 rfl rfl rfl hl.1 rfl (Nat.le_of_ble_eq_true rfl) d_FF_requireTarget_53) hD hS (fun H locs hP hD hS => ?_)
    refine lv_if_eq (tgt := 70) hx hb d_FF_requireTarget_56 (by decide) (fun hc => ?_) (fun hc => ?_)
    · have h := if_t hc h
      cases h
      exact xx_vret X hP hD hS d_FF_requireTarget_70
    · have h := if_f hc h
      cases h
      exact xx_throwW (k := 2) (ik := 119) (is := 306) (ic := 123) (text := "a directory cannot come into itself") (names := exN) X hE hZ htr (by decide) hP hD hS (by decide) (by decide) at_2_123 cl_119 in_E2 (List.mem_of_getElem? (i := 19) rfl) hl.1 d_FF_requireTarget_59 d_FF_requireTarget_62 d_FF_requireTarget_63 d_FF_requireTarget_66 d_FF_requireTarget_69 ⟨⟨by decide, Nat.le_of_ble_eq_true rfl⟩, by decide, by decide⟩
set_option maxHeartbeats 4000000 in
set_option maxRecDepth 100000 in
theorem m_FF_requireTarget {l : Launch} {D : va_G} {ad : Nat → Nat} {ca : Nat → ClassId} {FU : Nat} {x1 : Int32} {x2 : Int32} {x3 : Int32} {x4 : Int32} {g : St} {q : Nat × Int32 × St} (h : FF_requireTarget FU x1 x2 x3 x4 g = some q) : CX l ⟨"FlashFiles", "requireTarget", "(IIII)V"⟩ prog_1_method_33_code 5 6 none D (tyF ca) (wF ad ca g) [.ref (ad 0), .int x1, .int x2, .int x3, .int x4] q.1 none (wF ad ca q.2.2) := by
  refine CX.fx (by decide) (Nat.le_of_ble_eq_true rfl) ?_
  intro p e s m below meth c A ls X hE hZ htr hP hD hl
  have hl : lv_has ls 5 [(0, .ref (ad 0)), (1, .int x1), (2, .int x2), (3, .int x3), (4, .int x4)] := hl
  have hS : va_S A s.heap s.heap [] := va_S.rf
  have hx := X.1
  have hb := X.2.1
  unfold FF_requireTarget at h
  refine lv_iload hx hb d_FF_requireTarget_0 (lv_at hl 4 rfl) ?_
  refine lv_if_ne (tgt := 35) hx hb d_FF_requireTarget_2 (by decide) (fun hc => ?_) (fun hc => ?_)
  · have h := if_f hc h
    exact v_FF_requireTarget_35 X  hE hZ htr hP hD hS (lv_sub hl [0, 2, 3] rfl) h
  · have h := if_t hc h
    refine lv_iload_n hx hb d_FF_requireTarget_5 rfl (lv_at hl 2 rfl) ?_
    refine lv_iload_n hx hb d_FF_requireTarget_6 rfl (lv_at hl 1 rfl) ?_
    refine lv_icmp_eq (tgt := 35) hx hb d_FF_requireTarget_7 (by decide) (fun hc => ?_) (fun hc => ?_)
    · have h := if_t hc h
      exact v_FF_requireTarget_35 X  hE hZ htr hP hD hS (lv_sub hl [0, 2, 3] rfl) h
    · have h := if_f hc h
      refine lv_aload_n hx hb d_FF_requireTarget_10 rfl (lv_at hl 0 rfl) ?_
      refine gF_ff_tree X hP d_FF_requireTarget_11 ?_
      refine lv_iload_n hx hb d_FF_requireTarget_14 rfl (lv_at hl 2 rfl) ?_
      refine lv_iconst (v := 1) hx hb d_FF_requireTarget_15 (by decide) ?_
      obtain ⟨v3, e1, h⟩ := bd_some h
      refine fx_i X (fx_runV (As := [.int x2, .int (1 : Int32)]) X (m_Tre_wordOf e1 _) hP hD kv_FF_175 ⟨Nat.le_of_ble_eq_true rfl, Nat.le_of_ble_eq_true rfl⟩ 7 rfl rfl rfl hl.1 rfl (Nat.le_of_ble_eq_true rfl) d_FF_requireTarget_16) hD hS (fun H locs hP hD hS => ?_)
      refine lv_bipush (v := 48) hx hb d_FF_requireTarget_19 (by decide) ?_
      refine lv_icmp_lt (tgt := 35) hx hb d_FF_requireTarget_21 (by decide) (fun hc => ?_) (fun hc => ?_)
      · have h := if_t hc h
        exact v_FF_requireTarget_35 X  hE hZ htr hP hD hS (lv_sub hl [0, 2, 3] rfl) h
      · have h := if_f hc h
        cases h
        exact xx_throwW (k := 2) (ik := 119) (is := 301) (ic := 123) (text := "the other directory is full") (names := exN) X hE hZ htr (by decide) hP hD hS (by decide) (by decide) at_2_123 cl_119 in_E2 (List.mem_of_getElem? (i := 18) rfl) hl.1 d_FF_requireTarget_24 d_FF_requireTarget_27 d_FF_requireTarget_28 d_FF_requireTarget_31 d_FF_requireTarget_34 ⟨⟨by decide, Nat.le_of_ble_eq_true rfl⟩, by decide, by decide⟩
theorem d_FF_takeTwoNames_0 : decode prog_1_method_35_code 0 = .ok (.aload_n 0, 1) := by decide +kernel
theorem d_FF_takeTwoNames_1 : decode prog_1_method_35_code 1 = .ok (.invokevirtual 204, 3) := by decide +kernel
theorem d_FF_takeTwoNames_4 : decode prog_1_method_35_code 4 = .ok (.aload_n 0, 1) := by decide +kernel
theorem d_FF_takeTwoNames_5 : decode prog_1_method_35_code 5 = .ok (.getfield 14, 3) := by decide +kernel
theorem d_FF_takeTwoNames_8 : decode prog_1_method_35_code 8 = .ok (.iconst 0, 1) := by decide +kernel
theorem d_FF_takeTwoNames_9 : decode prog_1_method_35_code 9 = .ok (.iload_n 1, 1) := by decide +kernel
theorem d_FF_takeTwoNames_10 : decode prog_1_method_35_code 10 = .ok (.aload_n 0, 1) := by decide +kernel
theorem d_FF_takeTwoNames_11 : decode prog_1_method_35_code 11 = .ok (.getfield 21, 3) := by decide +kernel
theorem d_FF_takeTwoNames_14 : decode prog_1_method_35_code 14 = .ok (.invokevirtual 308, 3) := by decide +kernel
theorem d_FF_takeTwoNames_17 : decode prog_1_method_35_code 17 = .ok (.ifCond .eq 23, 3) := by decide +kernel
theorem d_FF_takeTwoNames_20 : decode prog_1_method_35_code 20 = .ok (.aload_n 0, 1) := by decide +kernel
theorem d_FF_takeTwoNames_21 : decode prog_1_method_35_code 21 = .ok (.getfield 14, 3) := by decide +kernel
theorem d_FF_takeTwoNames_24 : decode prog_1_method_35_code 24 = .ok (.iload_n 1, 1) := by decide +kernel
theorem d_FF_takeTwoNames_25 : decode prog_1_method_35_code 25 = .ok (.iload_n 2, 1) := by decide +kernel
theorem d_FF_takeTwoNames_26 : decode prog_1_method_35_code 26 = .ok (.aload_n 0, 1) := by decide +kernel
theorem d_FF_takeTwoNames_27 : decode prog_1_method_35_code 27 = .ok (.getfield 25, 3) := by decide +kernel
theorem d_FF_takeTwoNames_30 : decode prog_1_method_35_code 30 = .ok (.invokevirtual 308, 3) := by decide +kernel
theorem d_FF_takeTwoNames_33 : decode prog_1_method_35_code 33 = .ok (.ifCond .eq 7, 3) := by decide +kernel
theorem d_FF_takeTwoNames_36 : decode prog_1_method_35_code 36 = .ok (.iconst 1, 1) := by decide +kernel
theorem d_FF_takeTwoNames_37 : decode prog_1_method_35_code 37 = .ok (.goto 4, 3) := by decide +kernel
theorem d_FF_takeTwoNames_40 : decode prog_1_method_35_code 40 = .ok (.iconst 0, 1) := by decide +kernel
theorem d_FF_takeTwoNames_41 : decode prog_1_method_35_code 41 = .ok (.istore_n 3, 1) := by decide +kernel
theorem d_FF_takeTwoNames_42 : decode prog_1_method_35_code 42 = .ok (.aload_n 0, 1) := by decide +kernel
theorem d_FF_takeTwoNames_43 : decode prog_1_method_35_code 43 = .ok (.getfield 14, 3) := by decide +kernel
theorem d_FF_takeTwoNames_46 : decode prog_1_method_35_code 46 = .ok (.iconst 0, 1) := by decide +kernel
theorem d_FF_takeTwoNames_47 : decode prog_1_method_35_code 47 = .ok (.invokevirtual 127, 3) := by decide +kernel
theorem d_FF_takeTwoNames_50 : decode prog_1_method_35_code 50 = .ok (.iload_n 3, 1) := by decide +kernel
theorem d_FF_takeTwoNames_51 : decode prog_1_method_35_code 51 = .ok (.ireturn, 1) := by decide +kernel
set_option maxHeartbeats 4000000 in
set_option maxRecDepth 100000 in
theorem v_FF_takeTwoNames_41 {p : Program} {l : Launch} {e : Env} {s : State} {m : MethodId} {args : Array Value} {below : List Frame} {meth : Method} {c : Code} {D : va_G} {ad : Nat → Nat} {ca : Nat → ClassId} {A : Nat → Prop} {FU : Nat} {q : Nat × Int32 × St} (X : FX p s m meth c prog_1_method_35_code 4 (some .boolean) "FlashFiles" D (tyF ca) A) (hE : ∀ x ∈ c.exceptionTable.toList, False) (hZ : ZS A s) (htr : l.stackTraces = false) {z0 : Int32} {g : St} {H : Heap} {locs : List Loc} {ls : Array Slot} (hP : va_P D cls (wF ad ca g) H) (hD : va_D A (wF ad ca g)) (hS : va_S A s.heap H locs) (hl : lv_has ls 4 [(0, .ref (ad 0))]) (h : FF_takeTwoNames_b41 FU z0 g = some q) : W p l e (rmX 7) s m args below meth c H locs 0 0 (XQ below D (tyF ca) A (wF ad ca q.2.2) q.1 (some (.int q.2.1)) s) (F0 m 41 ls [.int z0]) := by
  have hx := X.1
  have hb := X.2.1
  unfold FF_takeTwoNames_b41 at h
  refine lv_istore_n hx hb d_FF_takeTwoNames_41 rfl hl (by decide) rfl (fun ls hl => ?_)
  have hl : lv_has ls 4 [(3, .int z0), (0, .ref (ad 0))] := hl
  refine lv_aload_n hx hb d_FF_takeTwoNames_42 rfl (lv_at hl 1 rfl) ?_
  refine gF_ff_onTape X hP d_FF_takeTwoNames_43 ?_
  refine lv_iconst (v := 0) hx hb d_FF_takeTwoNames_46 (by decide) ?_
  obtain ⟨p1, e1, h⟩ := bd_some h
  refine fx_v X (fx_runV (As := [.int (0 : Int32)]) X (m_Row_setLength_0 e1 _) hP hD kv_FF_127 ⟨Nat.le_of_ble_eq_true rfl, Nat.le_of_ble_eq_true rfl⟩ 1 rfl rfl rfl hl.1 rfl (Nat.le_of_ble_eq_true rfl) d_FF_takeTwoNames_47) hD hS (fun H locs hP hD hS => ?_)
  refine lv_iload_n hx hb d_FF_takeTwoNames_50 rfl (lv_at hl 0 rfl) ?_
  obtain ⟨hz, h⟩ | ⟨hz, h⟩ := if_some h
  rotate_left
  · cases h
  cases h
  exact xx_zret X hP hD hS hz d_FF_takeTwoNames_51
set_option maxHeartbeats 4000000 in
set_option maxRecDepth 100000 in
theorem v_FF_takeTwoNames_40 {p : Program} {l : Launch} {e : Env} {s : State} {m : MethodId} {args : Array Value} {below : List Frame} {meth : Method} {c : Code} {D : va_G} {ad : Nat → Nat} {ca : Nat → ClassId} {A : Nat → Prop} {FU : Nat} {q : Nat × Int32 × St} (X : FX p s m meth c prog_1_method_35_code 4 (some .boolean) "FlashFiles" D (tyF ca) A) (hE : ∀ x ∈ c.exceptionTable.toList, False) (hZ : ZS A s) (htr : l.stackTraces = false)  {g : St} {H : Heap} {locs : List Loc} {ls : Array Slot} (hP : va_P D cls (wF ad ca g) H) (hD : va_D A (wF ad ca g)) (hS : va_S A s.heap H locs) (hl : lv_has ls 4 [(0, .ref (ad 0))]) (h : FF_takeTwoNames_b40 FU g = some q) : W p l e (rmX 7) s m args below meth c H locs 0 0 (XQ below D (tyF ca) A (wF ad ca q.2.2) q.1 (some (.int q.2.1)) s) (F0 m 40 ls []) := by
  have hx := X.1
  have hb := X.2.1
  unfold FF_takeTwoNames_b40 at h
  refine lv_iconst (v := 0) hx hb d_FF_takeTwoNames_40 (by decide) ?_
  exact v_FF_takeTwoNames_41 X  hE hZ htr hP hD hS (lv_sub hl [0] rfl) h
set_option maxHeartbeats 4000000 in
set_option maxRecDepth 100000 in
theorem m_FF_takeTwoNames {l : Launch} {D : va_G} {ad : Nat → Nat} {ca : Nat → ClassId} {FU : Nat} {x1 : Int32} {x2 : Int32} {g : St} {q : Nat × Int32 × St} (h : FF_takeTwoNames FU x1 x2 g = some q) : CX l ⟨"FlashFiles", "takeTwoNames", "(II)Z"⟩ prog_1_method_35_code 4 7 (some .boolean) D (tyF ca) (wF ad ca g) [.ref (ad 0), .int x1, .int x2] q.1 (some (.int q.2.1)) (wF ad ca q.2.2) := by
  refine CX.fx (by decide) (Nat.le_of_ble_eq_true rfl) ?_
  intro p e s m below meth c A ls X hE hZ htr hP hD hl
  have hl : lv_has ls 4 [(0, .ref (ad 0)), (1, .int x1), (2, .int x2)] := hl
  have hS : va_S A s.heap s.heap [] := va_S.rf
  have hx := X.1
  have hb := X.2.1
  unfold FF_takeTwoNames at h
  refine lv_aload_n hx hb d_FF_takeTwoNames_0 rfl (lv_at hl 0 rfl) ?_
  obtain ⟨p2, e1, h⟩ := bd_some h
  refine xx_V (As := []) X (m_FF_requirePower e1) hZ htr hP hD hS kv_FF_204 ⟨⟨Nat.le_of_ble_eq_true rfl, Nat.le_of_ble_eq_true rfl⟩, Nat.le_of_ble_eq_true rfl, Nat.le_of_ble_eq_true rfl⟩ 0 rfl rfl rfl hl.1 rfl (Nat.le_of_ble_eq_true rfl) d_FF_takeTwoNames_1 (fun hk H locs hP hD hS => ?_) (fun hk H locs q9 ce hP hD hS hce hcv hcl => ?_)
  · have h := if_t hk h
    refine W.eq (g2 := F0 m 4 ls []) rfl ?_
    refine lv_aload_n hx hb d_FF_takeTwoNames_4 rfl (lv_at hl 0 rfl) ?_
    refine gF_ff_onTape X hP d_FF_takeTwoNames_5 ?_
    refine lv_iconst (v := 0) hx hb d_FF_takeTwoNames_8 (by decide) ?_
    refine lv_iload_n hx hb d_FF_takeTwoNames_9 rfl (lv_at hl 1 rfl) ?_
    refine lv_aload_n hx hb d_FF_takeTwoNames_10 rfl (lv_at hl 0 rfl) ?_
    refine gF_ff_first X hP d_FF_takeTwoNames_11 ?_
    obtain ⟨p3, e1, h⟩ := bd_some h
    refine fx_i X (fx_runV (As := [.int (0 : Int32), .int x1, .ref (ad 13)]) X (m_Row_packName_0_2 e1 _) hP hD kv_FF_308 ⟨Nat.le_of_ble_eq_true rfl, Nat.le_of_ble_eq_true rfl⟩ 1 rfl rfl rfl hl.1 rfl (Nat.le_of_ble_eq_true rfl) d_FF_takeTwoNames_14) hD hS (fun H locs hP hD hS => ?_)
    refine lv_if_eq (tgt := 40) hx hb d_FF_takeTwoNames_17 (by decide) (fun hc => ?_) (fun hc => ?_)
    · have h := if_t hc h
      exact v_FF_takeTwoNames_40 X  hE hZ htr hP hD hS (lv_sub hl [0] rfl) h
    · have h := if_f hc h
      refine lv_aload_n hx hb d_FF_takeTwoNames_20 rfl (lv_at hl 0 rfl) ?_
      refine gF_ff_onTape X hP d_FF_takeTwoNames_21 ?_
      refine lv_iload_n hx hb d_FF_takeTwoNames_24 rfl (lv_at hl 1 rfl) ?_
      refine lv_iload_n hx hb d_FF_takeTwoNames_25 rfl (lv_at hl 2 rfl) ?_
      refine lv_aload_n hx hb d_FF_takeTwoNames_26 rfl (lv_at hl 0 rfl) ?_
      refine gF_ff_second X hP d_FF_takeTwoNames_27 ?_
      obtain ⟨p4, e1, h⟩ := bd_some h
      refine fx_i X (fx_runV (As := [.int x1, .int x2, .ref (ad 14)]) X (m_Row_packName_0_3 e1 _) hP hD kv_FF_308 ⟨Nat.le_of_ble_eq_true rfl, Nat.le_of_ble_eq_true rfl⟩ 1 rfl rfl rfl hl.1 rfl (Nat.le_of_ble_eq_true rfl) d_FF_takeTwoNames_30) hD hS (fun H locs hP hD hS => ?_)
      refine lv_if_eq (tgt := 40) hx hb d_FF_takeTwoNames_33 (by decide) (fun hc => ?_) (fun hc => ?_)
      · have h := if_t hc h
        exact v_FF_takeTwoNames_40 X  hE hZ htr hP hD hS (lv_sub hl [0] rfl) h
      · have h := if_f hc h
        refine lv_iconst (v := 1) hx hb d_FF_takeTwoNames_36 (by decide) ?_
        refine lv_goto (tgt := 41) hx hb d_FF_takeTwoNames_37 (by decide) ?_
        exact v_FF_takeTwoNames_41 X  hE hZ htr hP hD hS (lv_sub hl [0] rfl) h
  · have h := if_f hk h
    cases h
    exact xx_leave X hE hk hP hD hS hce hcv hcl (Nat.le_refl _) (Nat.le_refl _)
theorem d_FF_rename_0 : decode prog_1_method_10_code 0 = .ok (.aload_n 0, 1) := by decide +kernel
theorem d_FF_rename_1 : decode prog_1_method_10_code 1 = .ok (.iload_n 1, 1) := by decide +kernel
theorem d_FF_rename_2 : decode prog_1_method_10_code 2 = .ok (.aload_n 0, 1) := by decide +kernel
theorem d_FF_rename_3 : decode prog_1_method_10_code 3 = .ok (.iload_n 2, 1) := by decide +kernel
theorem d_FF_rename_4 : decode prog_1_method_10_code 4 = .ok (.iload 4, 2) := by decide +kernel
theorem d_FF_rename_6 : decode prog_1_method_10_code 6 = .ok (.invokevirtual 183, 3) := by decide +kernel
theorem d_FF_rename_9 : decode prog_1_method_10_code 9 = .ok (.invokevirtual 159, 3) := by decide +kernel
theorem d_FF_rename_12 : decode prog_1_method_10_code 12 = .ok (.aload_n 0, 1) := by decide +kernel
theorem d_FF_rename_13 : decode prog_1_method_10_code 13 = .ok (.iload_n 3, 1) := by decide +kernel
theorem d_FF_rename_14 : decode prog_1_method_10_code 14 = .ok (.iconst 1, 1) := by decide +kernel
theorem d_FF_rename_15 : decode prog_1_method_10_code 15 = .ok (.invokevirtual 159, 3) := by decide +kernel
theorem d_FF_rename_18 : decode prog_1_method_10_code 18 = .ok (.aload_n 0, 1) := by decide +kernel
theorem d_FF_rename_19 : decode prog_1_method_10_code 19 = .ok (.getfield 63, 3) := by decide +kernel
theorem d_FF_rename_22 : decode prog_1_method_10_code 22 = .ok (.iload_n 1, 1) := by decide +kernel
theorem d_FF_rename_23 : decode prog_1_method_10_code 23 = .ok (.aload_n 0, 1) := by decide +kernel
theorem d_FF_rename_24 : decode prog_1_method_10_code 24 = .ok (.getfield 21, 3) := by decide +kernel
theorem d_FF_rename_27 : decode prog_1_method_10_code 27 = .ok (.invokevirtual 187, 3) := by decide +kernel
theorem d_FF_rename_30 : decode prog_1_method_10_code 30 = .ok (.istore 5, 2) := by decide +kernel
theorem d_FF_rename_32 : decode prog_1_method_10_code 32 = .ok (.aload_n 0, 1) := by decide +kernel
theorem d_FF_rename_33 : decode prog_1_method_10_code 33 = .ok (.getfield 63, 3) := by decide +kernel
theorem d_FF_rename_36 : decode prog_1_method_10_code 36 = .ok (.iload_n 3, 1) := by decide +kernel
theorem d_FF_rename_37 : decode prog_1_method_10_code 37 = .ok (.aload_n 0, 1) := by decide +kernel
theorem d_FF_rename_38 : decode prog_1_method_10_code 38 = .ok (.getfield 25, 3) := by decide +kernel
theorem d_FF_rename_41 : decode prog_1_method_10_code 41 = .ok (.invokevirtual 187, 3) := by decide +kernel
theorem d_FF_rename_44 : decode prog_1_method_10_code 44 = .ok (.istore 6, 2) := by decide +kernel
theorem d_FF_rename_46 : decode prog_1_method_10_code 46 = .ok (.aload_n 0, 1) := by decide +kernel
theorem d_FF_rename_47 : decode prog_1_method_10_code 47 = .ok (.getfield 63, 3) := by decide +kernel
theorem d_FF_rename_50 : decode prog_1_method_10_code 50 = .ok (.iload_n 1, 1) := by decide +kernel
theorem d_FF_rename_51 : decode prog_1_method_10_code 51 = .ok (.iload 5, 2) := by decide +kernel
theorem d_FF_rename_53 : decode prog_1_method_10_code 53 = .ok (.invokevirtual 165, 3) := by decide +kernel
theorem d_FF_rename_56 : decode prog_1_method_10_code 56 = .ok (.istore 7, 2) := by decide +kernel
theorem d_FF_rename_58 : decode prog_1_method_10_code 58 = .ok (.aload_n 0, 1) := by decide +kernel
theorem d_FF_rename_59 : decode prog_1_method_10_code 59 = .ok (.getfield 63, 3) := by decide +kernel
theorem d_FF_rename_62 : decode prog_1_method_10_code 62 = .ok (.iload_n 3, 1) := by decide +kernel
theorem d_FF_rename_63 : decode prog_1_method_10_code 63 = .ok (.iload 6, 2) := by decide +kernel
theorem d_FF_rename_65 : decode prog_1_method_10_code 65 = .ok (.invokevirtual 165, 3) := by decide +kernel
theorem d_FF_rename_68 : decode prog_1_method_10_code 68 = .ok (.istore 8, 2) := by decide +kernel
theorem d_FF_rename_70 : decode prog_1_method_10_code 70 = .ok (.iload 7, 2) := by decide +kernel
theorem d_FF_rename_72 : decode prog_1_method_10_code 72 = .ok (.ifCond .eq 14, 3) := by decide +kernel
theorem d_FF_rename_75 : decode prog_1_method_10_code 75 = .ok (.iload 7, 2) := by decide +kernel
theorem d_FF_rename_77 : decode prog_1_method_10_code 77 = .ok (.iload 8, 2) := by decide +kernel
theorem d_FF_rename_79 : decode prog_1_method_10_code 79 = .ok (.if_icmp .ne 7, 3) := by decide +kernel
theorem d_FF_rename_82 : decode prog_1_method_10_code 82 = .ok (.iconst 1, 1) := by decide +kernel
theorem d_FF_rename_83 : decode prog_1_method_10_code 83 = .ok (.goto 4, 3) := by decide +kernel
theorem d_FF_rename_86 : decode prog_1_method_10_code 86 = .ok (.iconst 0, 1) := by decide +kernel
theorem d_FF_rename_87 : decode prog_1_method_10_code 87 = .ok (.istore 9, 2) := by decide +kernel
theorem d_FF_rename_89 : decode prog_1_method_10_code 89 = .ok (.iload 9, 2) := by decide +kernel
theorem d_FF_rename_91 : decode prog_1_method_10_code 91 = .ok (.ifCond .ne 21, 3) := by decide +kernel
theorem d_FF_rename_94 : decode prog_1_method_10_code 94 = .ok (.aload_n 0, 1) := by decide +kernel
theorem d_FF_rename_95 : decode prog_1_method_10_code 95 = .ok (.iload 7, 2) := by decide +kernel
theorem d_FF_rename_97 : decode prog_1_method_10_code 97 = .ok (.iload 8, 2) := by decide +kernel
theorem d_FF_rename_99 : decode prog_1_method_10_code 99 = .ok (.invokevirtual 191, 3) := by decide +kernel
theorem d_FF_rename_102 : decode prog_1_method_10_code 102 = .ok (.aload_n 0, 1) := by decide +kernel
theorem d_FF_rename_103 : decode prog_1_method_10_code 103 = .ok (.iload_n 1, 1) := by decide +kernel
theorem d_FF_rename_104 : decode prog_1_method_10_code 104 = .ok (.iload_n 3, 1) := by decide +kernel
theorem d_FF_rename_105 : decode prog_1_method_10_code 105 = .ok (.iload 7, 2) := by decide +kernel
theorem d_FF_rename_107 : decode prog_1_method_10_code 107 = .ok (.iload 8, 2) := by decide +kernel
theorem d_FF_rename_109 : decode prog_1_method_10_code 109 = .ok (.invokevirtual 194, 3) := by decide +kernel
theorem d_FF_rename_112 : decode prog_1_method_10_code 112 = .ok (.aload_n 0, 1) := by decide +kernel
theorem d_FF_rename_113 : decode prog_1_method_10_code 113 = .ok (.bipush 8, 2) := by decide +kernel
theorem d_FF_rename_115 : decode prog_1_method_10_code 115 = .ok (.invokevirtual 141, 3) := by decide +kernel
theorem d_FF_rename_118 : decode prog_1_method_10_code 118 = .ok (.iload 9, 2) := by decide +kernel
theorem d_FF_rename_120 : decode prog_1_method_10_code 120 = .ok (.ifCond .eq 4, 3) := by decide +kernel
theorem d_FF_rename_123 : decode prog_1_method_10_code 123 = .ok (.return_, 1) := by decide +kernel
theorem d_FF_rename_124 : decode prog_1_method_10_code 124 = .ok (.aload_n 0, 1) := by decide +kernel
theorem d_FF_rename_125 : decode prog_1_method_10_code 125 = .ok (.getfield 63, 3) := by decide +kernel
theorem d_FF_rename_128 : decode prog_1_method_10_code 128 = .ok (.iload_n 1, 1) := by decide +kernel
theorem d_FF_rename_129 : decode prog_1_method_10_code 129 = .ok (.iload 5, 2) := by decide +kernel
theorem d_FF_rename_131 : decode prog_1_method_10_code 131 = .ok (.invokevirtual 168, 3) := by decide +kernel
theorem d_FF_rename_134 : decode prog_1_method_10_code 134 = .ok (.iload 8, 2) := by decide +kernel
theorem d_FF_rename_136 : decode prog_1_method_10_code 136 = .ok (.ifCond .eq 19, 3) := by decide +kernel
theorem d_FF_rename_139 : decode prog_1_method_10_code 139 = .ok (.aload_n 0, 1) := by decide +kernel
theorem d_FF_rename_140 : decode prog_1_method_10_code 140 = .ok (.getfield 63, 3) := by decide +kernel
theorem d_FF_rename_143 : decode prog_1_method_10_code 143 = .ok (.iload_n 3, 1) := by decide +kernel
theorem d_FF_rename_144 : decode prog_1_method_10_code 144 = .ok (.iload 6, 2) := by decide +kernel
theorem d_FF_rename_146 : decode prog_1_method_10_code 146 = .ok (.invokevirtual 168, 3) := by decide +kernel
theorem d_FF_rename_149 : decode prog_1_method_10_code 149 = .ok (.aload_n 0, 1) := by decide +kernel
theorem d_FF_rename_150 : decode prog_1_method_10_code 150 = .ok (.iload 8, 2) := by decide +kernel
theorem d_FF_rename_152 : decode prog_1_method_10_code 152 = .ok (.invokevirtual 198, 3) := by decide +kernel
theorem d_FF_rename_155 : decode prog_1_method_10_code 155 = .ok (.aload_n 0, 1) := by decide +kernel
theorem d_FF_rename_156 : decode prog_1_method_10_code 156 = .ok (.getfield 63, 3) := by decide +kernel
theorem d_FF_rename_159 : decode prog_1_method_10_code 159 = .ok (.iload_n 3, 1) := by decide +kernel
theorem d_FF_rename_160 : decode prog_1_method_10_code 160 = .ok (.aload_n 0, 1) := by decide +kernel
theorem d_FF_rename_161 : decode prog_1_method_10_code 161 = .ok (.getfield 25, 3) := by decide +kernel
theorem d_FF_rename_164 : decode prog_1_method_10_code 164 = .ok (.iload 7, 2) := by decide +kernel
theorem d_FF_rename_166 : decode prog_1_method_10_code 166 = .ok (.invokevirtual 151, 3) := by decide +kernel
theorem d_FF_rename_169 : decode prog_1_method_10_code 169 = .ok (.aload_n 0, 1) := by decide +kernel
theorem d_FF_rename_170 : decode prog_1_method_10_code 170 = .ok (.getfield 63, 3) := by decide +kernel
theorem d_FF_rename_173 : decode prog_1_method_10_code 173 = .ok (.iload 7, 2) := by decide +kernel
theorem d_FF_rename_175 : decode prog_1_method_10_code 175 = .ok (.iload_n 3, 1) := by decide +kernel
theorem d_FF_rename_176 : decode prog_1_method_10_code 176 = .ok (.invokevirtual 201, 3) := by decide +kernel
theorem d_FF_rename_179 : decode prog_1_method_10_code 179 = .ok (.return_, 1) := by decide +kernel
set_option maxHeartbeats 4000000 in
set_option maxRecDepth 100000 in
theorem v_FF_rename_155 {p : Program} {l : Launch} {e : Env} {s : State} {m : MethodId} {args : Array Value} {below : List Frame} {meth : Method} {c : Code} {D : va_G} {ad : Nat → Nat} {ca : Nat → ClassId} {A : Nat → Prop} {FU : Nat} {q : Nat × Int32 × St} (X : FX p s m meth c prog_1_method_10_code 10 none "FlashFiles" D (tyF ca) A) (hE : ∀ x ∈ c.exceptionTable.toList, False) (hZ : ZS A s) (htr : l.stackTraces = false) {y3 : Int32} {y7 : Int32} {g : St} {H : Heap} {locs : List Loc} {ls : Array Slot} (hP : va_P D cls (wF ad ca g) H) (hD : va_D A (wF ad ca g)) (hS : va_S A s.heap H locs) (hl : lv_has ls 10 [(0, .ref (ad 0)), (3, .int y3), (7, .int y7)]) (h : FF_rename_b155 FU y3 y7 g = some q) : W p l e (rmX 10) s m args below meth c H locs 0 0 (XQ below D (tyF ca) A (wF ad ca q.2.2) q.1 none s) (F0 m 155 ls []) := by
  have hx := X.1
  have hb := X.2.1
  unfold FF_rename_b155 at h
  refine lv_aload_n hx hb d_FF_rename_155 rfl (lv_at hl 0 rfl) ?_
  refine gF_ff_tree X hP d_FF_rename_156 ?_
  refine lv_iload_n hx hb d_FF_rename_159 rfl (lv_at hl 1 rfl) ?_
  refine lv_aload_n hx hb d_FF_rename_160 rfl (lv_at hl 0 rfl) ?_
  refine gF_ff_second X hP d_FF_rename_161 ?_
  refine lv_iload hx hb d_FF_rename_164 (lv_at hl 2 rfl) ?_
  obtain ⟨p1, e1, h⟩ := bd_some h
  refine fx_v X (fx_runV (As := [.int y3, .ref (ad 14), .int y7]) X (m_Tre_addName_3 e1 _) hP hD kv_FF_151 ⟨Nat.le_of_ble_eq_true rfl, Nat.le_of_ble_eq_true rfl⟩ 7 rfl rfl rfl hl.1 rfl (Nat.le_of_ble_eq_true rfl) d_FF_rename_166) hD hS (fun H locs hP hD hS => ?_)
  refine lv_aload_n hx hb d_FF_rename_169 rfl (lv_at hl 0 rfl) ?_
  refine gF_ff_tree X hP d_FF_rename_170 ?_
  refine lv_iload hx hb d_FF_rename_173 (lv_at hl 2 rfl) ?_
  refine lv_iload_n hx hb d_FF_rename_175 rfl (lv_at hl 1 rfl) ?_
  obtain ⟨p2, e1, h⟩ := bd_some h
  refine fx_v X (fx_runV (As := [.int y7, .int y3]) X (m_Tre_moved e1 _) hP hD kv_FF_201 ⟨Nat.le_of_ble_eq_true rfl, Nat.le_of_ble_eq_true rfl⟩ 7 rfl rfl rfl hl.1 rfl (Nat.le_of_ble_eq_true rfl) d_FF_rename_176) hD hS (fun H locs hP hD hS => ?_)
  cases h
  exact xx_vret X hP hD hS d_FF_rename_179
set_option maxHeartbeats 4000000 in
set_option maxRecDepth 100000 in
theorem v_FF_rename_112 {p : Program} {l : Launch} {e : Env} {s : State} {m : MethodId} {args : Array Value} {below : List Frame} {meth : Method} {c : Code} {D : va_G} {ad : Nat → Nat} {ca : Nat → ClassId} {A : Nat → Prop} {FU : Nat} {q : Nat × Int32 × St} (X : FX p s m meth c prog_1_method_10_code 10 none "FlashFiles" D (tyF ca) A) (hE : ∀ x ∈ c.exceptionTable.toList, False) (hZ : ZS A s) (htr : l.stackTraces = false) {y1 : Int32} {y3 : Int32} {y5 : Int32} {y6 : Int32} {y7 : Int32} {y8 : Int32} {y9 : Int32} {g : St} {H : Heap} {locs : List Loc} {ls : Array Slot} (hP : va_P D cls (wF ad ca g) H) (hD : va_D A (wF ad ca g)) (hS : va_S A s.heap H locs) (hl : lv_has ls 10 [(0, .ref (ad 0)), (1, .int y1), (3, .int y3), (5, .int y5), (6, .int y6), (7, .int y7), (8, .int y8), (9, .int y9)]) (h : FF_rename_b112 FU y1 y3 y5 y6 y7 y8 y9 g = some q) : W p l e (rmX 10) s m args below meth c H locs 0 0 (XQ below D (tyF ca) A (wF ad ca q.2.2) q.1 none s) (F0 m 112 ls []) := by
  have hx := X.1
  have hb := X.2.1
  unfold FF_rename_b112 at h
  refine lv_aload_n hx hb d_FF_rename_112 rfl (lv_at hl 0 rfl) ?_
  refine lv_bipush (v := 8) hx hb d_FF_rename_113 (by decide) ?_
  obtain ⟨p3, e1, h⟩ := bd_some h
  refine xx_V (As := [.int (8 : Int32)]) X (m_FF_reserve e1) hZ htr hP hD hS kv_FF_141 ⟨⟨Nat.le_of_ble_eq_true rfl, Nat.le_of_ble_eq_true rfl⟩, Nat.le_of_ble_eq_true rfl, Nat.le_of_ble_eq_true rfl⟩ 0 rfl rfl rfl hl.1 rfl (Nat.le_of_ble_eq_true rfl) d_FF_rename_115 (fun hk H locs hP hD hS => ?_) (fun hk H locs q9 ce hP hD hS hce hcv hcl => ?_)
  · have h := if_t hk h
    refine W.eq (g2 := F0 m 118 ls []) rfl ?_
    refine lv_iload hx hb d_FF_rename_118 (lv_at hl 7 rfl) ?_
    refine lv_if_eq (tgt := 124) hx hb d_FF_rename_120 (by decide) (fun hc => ?_) (fun hc => ?_)
    · have h := if_t hc h
      refine lv_aload_n hx hb d_FF_rename_124 rfl (lv_at hl 0 rfl) ?_
      refine gF_ff_tree X hP d_FF_rename_125 ?_
      refine lv_iload_n hx hb d_FF_rename_128 rfl (lv_at hl 1 rfl) ?_
      refine lv_iload hx hb d_FF_rename_129 (lv_at hl 3 rfl) ?_
      obtain ⟨p4, e1, h⟩ := bd_some h
      refine fx_v X (fx_runV (As := [.int y1, .int y5]) X (m_Tre_dropName e1 _) hP hD kv_FF_168 ⟨Nat.le_of_ble_eq_true rfl, Nat.le_of_ble_eq_true rfl⟩ 7 rfl rfl rfl hl.1 rfl (Nat.le_of_ble_eq_true rfl) d_FF_rename_131) hD hS (fun H locs hP hD hS => ?_)
      refine lv_iload hx hb d_FF_rename_134 (lv_at hl 6 rfl) ?_
      refine lv_if_eq (tgt := 155) hx hb d_FF_rename_136 (by decide) (fun hc => ?_) (fun hc => ?_)
      · have h := if_t hc h
        exact v_FF_rename_155 X  hE hZ htr hP hD hS (lv_sub hl [0, 2, 5] rfl) h
      · have h := if_f hc h
        refine lv_aload_n hx hb d_FF_rename_139 rfl (lv_at hl 0 rfl) ?_
        refine gF_ff_tree X hP d_FF_rename_140 ?_
        refine lv_iload_n hx hb d_FF_rename_143 rfl (lv_at hl 2 rfl) ?_
        refine lv_iload hx hb d_FF_rename_144 (lv_at hl 4 rfl) ?_
        obtain ⟨p5, e1, h⟩ := bd_some h
        refine fx_v X (fx_runV (As := [.int y3, .int y6]) X (m_Tre_dropName e1 _) hP hD kv_FF_168 ⟨Nat.le_of_ble_eq_true rfl, Nat.le_of_ble_eq_true rfl⟩ 7 rfl rfl rfl hl.1 rfl (Nat.le_of_ble_eq_true rfl) d_FF_rename_146) hD hS (fun H locs hP hD hS => ?_)
        refine lv_aload_n hx hb d_FF_rename_149 rfl (lv_at hl 0 rfl) ?_
        refine lv_iload hx hb d_FF_rename_150 (lv_at hl 6 rfl) ?_
        obtain ⟨p6, e1, h⟩ := bd_some h
        refine fx_v X (fx_runV (As := [.int y8]) X (m_FF_lose e1 _) hP hD kv_FF_198 ⟨Nat.le_of_ble_eq_true rfl, Nat.le_of_ble_eq_true rfl⟩ 0 rfl rfl rfl hl.1 rfl (Nat.le_of_ble_eq_true rfl) d_FF_rename_152) hD hS (fun H locs hP hD hS => ?_)
        exact v_FF_rename_155 X  hE hZ htr hP hD hS (lv_sub hl [0, 2, 5] rfl) h
    · have h := if_f hc h
      cases h
      exact xx_vret X hP hD hS d_FF_rename_123
  · have h := if_f hk h
    cases h
    exact xx_leave X hE hk hP hD hS hce hcv hcl (Nat.le_refl _) (Nat.le_refl _)
set_option maxHeartbeats 4000000 in
set_option maxRecDepth 100000 in
theorem v_FF_rename_87 {p : Program} {l : Launch} {e : Env} {s : State} {m : MethodId} {args : Array Value} {below : List Frame} {meth : Method} {c : Code} {D : va_G} {ad : Nat → Nat} {ca : Nat → ClassId} {A : Nat → Prop} {FU : Nat} {q : Nat × Int32 × St} (X : FX p s m meth c prog_1_method_10_code 10 none "FlashFiles" D (tyF ca) A) (hE : ∀ x ∈ c.exceptionTable.toList, False) (hZ : ZS A s) (htr : l.stackTraces = false) {y1 : Int32} {y3 : Int32} {y5 : Int32} {y6 : Int32} {y7 : Int32} {y8 : Int32} {z0 : Int32} {g : St} {H : Heap} {locs : List Loc} {ls : Array Slot} (hP : va_P D cls (wF ad ca g) H) (hD : va_D A (wF ad ca g)) (hS : va_S A s.heap H locs) (hl : lv_has ls 10 [(0, .ref (ad 0)), (1, .int y1), (3, .int y3), (5, .int y5), (6, .int y6), (7, .int y7), (8, .int y8)]) (h : FF_rename_b87 FU y1 y3 y5 y6 y7 y8 z0 g = some q) : W p l e (rmX 10) s m args below meth c H locs 0 0 (XQ below D (tyF ca) A (wF ad ca q.2.2) q.1 none s) (F0 m 87 ls [.int z0]) := by
  have hx := X.1
  have hb := X.2.1
  unfold FF_rename_b87 at h
  refine lv_istore hx hb d_FF_rename_87 hl (by decide) rfl (fun ls hl => ?_)
  have hl : lv_has ls 10 [(9, .int z0), (0, .ref (ad 0)), (1, .int y1), (3, .int y3), (5, .int y5), (6, .int y6), (7, .int y7), (8, .int y8)] := hl
  refine lv_iload hx hb d_FF_rename_89 (lv_at hl 0 rfl) ?_
  refine lv_if_ne (tgt := 112) hx hb d_FF_rename_91 (by decide) (fun hc => ?_) (fun hc => ?_)
  · have h := if_f hc h
    exact v_FF_rename_112 X  hE hZ htr hP hD hS (lv_sub hl [1, 2, 3, 4, 5, 6, 7, 0] rfl) h
  · have h := if_t hc h
    refine lv_aload_n hx hb d_FF_rename_94 rfl (lv_at hl 1 rfl) ?_
    refine lv_iload hx hb d_FF_rename_95 (lv_at hl 6 rfl) ?_
    refine lv_iload hx hb d_FF_rename_97 (lv_at hl 7 rfl) ?_
    obtain ⟨p7, e1, h⟩ := bd_some h
    refine xx_V (As := [.int y7, .int y8]) X (m_FF_requireMovable e1) hZ htr hP hD hS kv_FF_191 ⟨⟨Nat.le_of_ble_eq_true rfl, Nat.le_of_ble_eq_true rfl⟩, Nat.le_of_ble_eq_true rfl, Nat.le_of_ble_eq_true rfl⟩ 0 rfl rfl rfl hl.1 rfl (Nat.le_of_ble_eq_true rfl) d_FF_rename_99 (fun hk H locs hP hD hS => ?_) (fun hk H locs q9 ce hP hD hS hce hcv hcl => ?_)
    · have h := if_t hk h
      refine W.eq (g2 := F0 m 102 ls []) rfl ?_
      refine lv_aload_n hx hb d_FF_rename_102 rfl (lv_at hl 1 rfl) ?_
      refine lv_iload_n hx hb d_FF_rename_103 rfl (lv_at hl 2 rfl) ?_
      refine lv_iload_n hx hb d_FF_rename_104 rfl (lv_at hl 3 rfl) ?_
      refine lv_iload hx hb d_FF_rename_105 (lv_at hl 6 rfl) ?_
      refine lv_iload hx hb d_FF_rename_107 (lv_at hl 7 rfl) ?_
      obtain ⟨p8, e1, h⟩ := bd_some h
      refine xx_V (As := [.int y1, .int y3, .int y7, .int y8]) X (m_FF_requireTarget e1) hZ htr hP hD hS kv_FF_194 ⟨⟨Nat.le_of_ble_eq_true rfl, Nat.le_of_ble_eq_true rfl⟩, Nat.le_of_ble_eq_true rfl, Nat.le_of_ble_eq_true rfl⟩ 0 rfl rfl rfl hl.1 rfl (Nat.le_of_ble_eq_true rfl) d_FF_rename_109 (fun hk H locs hP hD hS => ?_) (fun hk H locs q9 ce hP hD hS hce hcv hcl => ?_)
      · have h := if_t hk h
        refine W.eq (g2 := F0 m 112 ls []) rfl ?_
        exact v_FF_rename_112 X  hE hZ htr hP hD hS (lv_sub hl [1, 2, 3, 4, 5, 6, 7, 0] rfl) h
      · have h := if_f hk h
        cases h
        exact xx_leave X hE hk hP hD hS hce hcv hcl (Nat.le_refl _) (Nat.le_refl _)
    · have h := if_f hk h
      cases h
      exact xx_leave X hE hk hP hD hS hce hcv hcl (Nat.le_refl _) (Nat.le_refl _)
set_option maxHeartbeats 4000000 in
set_option maxRecDepth 100000 in
theorem v_FF_rename_86 {p : Program} {l : Launch} {e : Env} {s : State} {m : MethodId} {args : Array Value} {below : List Frame} {meth : Method} {c : Code} {D : va_G} {ad : Nat → Nat} {ca : Nat → ClassId} {A : Nat → Prop} {FU : Nat} {q : Nat × Int32 × St} (X : FX p s m meth c prog_1_method_10_code 10 none "FlashFiles" D (tyF ca) A) (hE : ∀ x ∈ c.exceptionTable.toList, False) (hZ : ZS A s) (htr : l.stackTraces = false) {y1 : Int32} {y3 : Int32} {y5 : Int32} {y6 : Int32} {y7 : Int32} {y8 : Int32} {g : St} {H : Heap} {locs : List Loc} {ls : Array Slot} (hP : va_P D cls (wF ad ca g) H) (hD : va_D A (wF ad ca g)) (hS : va_S A s.heap H locs) (hl : lv_has ls 10 [(0, .ref (ad 0)), (1, .int y1), (3, .int y3), (5, .int y5), (6, .int y6), (7, .int y7), (8, .int y8)]) (h : FF_rename_b86 FU y1 y3 y5 y6 y7 y8 g = some q) : W p l e (rmX 10) s m args below meth c H locs 0 0 (XQ below D (tyF ca) A (wF ad ca q.2.2) q.1 none s) (F0 m 86 ls []) := by
  have hx := X.1
  have hb := X.2.1
  unfold FF_rename_b86 at h
  refine lv_iconst (v := 0) hx hb d_FF_rename_86 (by decide) ?_
  exact v_FF_rename_87 X  hE hZ htr hP hD hS (lv_sub hl [0, 1, 2, 3, 4, 5, 6] rfl) h
set_option maxHeartbeats 4000000 in
set_option maxRecDepth 100000 in
theorem m_FF_rename {l : Launch} {D : va_G} {ad : Nat → Nat} {ca : Nat → ClassId} {FU : Nat} {x1 : Int32} {x2 : Int32} {x3 : Int32} {x4 : Int32} {g : St} {q : Nat × Int32 × St} (h : FF_rename FU x1 x2 x3 x4 g = some q) : CX l ⟨"FlashFiles", "rename", "(IIII)V"⟩ prog_1_method_10_code 10 10 none D (tyF ca) (wF ad ca g) [.ref (ad 0), .int x1, .int x2, .int x3, .int x4] q.1 none (wF ad ca q.2.2) := by
  refine CX.fx (by decide) (Nat.le_of_ble_eq_true rfl) ?_
  intro p e s m below meth c A ls X hE hZ htr hP hD hl
  have hl : lv_has ls 10 [(0, .ref (ad 0)), (1, .int x1), (2, .int x2), (3, .int x3), (4, .int x4)] := hl
  have hS : va_S A s.heap s.heap [] := va_S.rf
  have hx := X.1
  have hb := X.2.1
  unfold FF_rename at h
  refine lv_aload_n hx hb d_FF_rename_0 rfl (lv_at hl 0 rfl) ?_
  refine lv_iload_n hx hb d_FF_rename_1 rfl (lv_at hl 1 rfl) ?_
  refine lv_aload_n hx hb d_FF_rename_2 rfl (lv_at hl 0 rfl) ?_
  refine lv_iload_n hx hb d_FF_rename_3 rfl (lv_at hl 2 rfl) ?_
  refine lv_iload hx hb d_FF_rename_4 (lv_at hl 4 rfl) ?_
  obtain ⟨p9, e1, h⟩ := bd_some h
  refine xx_V (As := [.int x2, .int x4]) X (m_FF_takeTwoNames e1) hZ htr hP hD hS kv_FF_183 ⟨⟨Nat.le_of_ble_eq_true rfl, Nat.le_of_ble_eq_true rfl⟩, Nat.le_of_ble_eq_true rfl, Nat.le_of_ble_eq_true rfl⟩ 0 rfl rfl rfl hl.1 rfl (Nat.le_of_ble_eq_true rfl) d_FF_rename_6 (fun hk H locs hP hD hS => ?_) (fun hk H locs q9 ce hP hD hS hce hcv hcl => ?_)
  · have h := if_t hk h
    refine W.eq (g2 := F0 m 9 ls [.int p9.2.1, .int x1, .ref (ad 0)]) rfl ?_
    obtain ⟨p10, e1, h⟩ := bd_some h
    refine xx_V (As := [.int x1, .int p9.2.1]) X (m_FF_requireNamed e1) hZ htr hP hD hS kv_FF_159 ⟨⟨Nat.le_of_ble_eq_true rfl, Nat.le_of_ble_eq_true rfl⟩, Nat.le_of_ble_eq_true rfl, Nat.le_of_ble_eq_true rfl⟩ 0 rfl rfl rfl hl.1 rfl (Nat.le_of_ble_eq_true rfl) d_FF_rename_9 (fun hk H locs hP hD hS => ?_) (fun hk H locs q9 ce hP hD hS hce hcv hcl => ?_)
    · have h := if_t hk h
      refine W.eq (g2 := F0 m 12 ls []) rfl ?_
      refine lv_aload_n hx hb d_FF_rename_12 rfl (lv_at hl 0 rfl) ?_
      refine lv_iload_n hx hb d_FF_rename_13 rfl (lv_at hl 3 rfl) ?_
      refine lv_iconst (v := 1) hx hb d_FF_rename_14 (by decide) ?_
      obtain ⟨p11, e1, h⟩ := bd_some h
      refine xx_V (As := [.int x3, .int (1 : Int32)]) X (m_FF_requireNamed e1) hZ htr hP hD hS kv_FF_159 ⟨⟨Nat.le_of_ble_eq_true rfl, Nat.le_of_ble_eq_true rfl⟩, Nat.le_of_ble_eq_true rfl, Nat.le_of_ble_eq_true rfl⟩ 0 rfl rfl rfl hl.1 rfl (Nat.le_of_ble_eq_true rfl) d_FF_rename_15 (fun hk H locs hP hD hS => ?_) (fun hk H locs q9 ce hP hD hS hce hcv hcl => ?_)
      · have h := if_t hk h
        refine W.eq (g2 := F0 m 18 ls []) rfl ?_
        refine lv_aload_n hx hb d_FF_rename_18 rfl (lv_at hl 0 rfl) ?_
        refine gF_ff_tree X hP d_FF_rename_19 ?_
        refine lv_iload_n hx hb d_FF_rename_22 rfl (lv_at hl 1 rfl) ?_
        refine lv_aload_n hx hb d_FF_rename_23 rfl (lv_at hl 0 rfl) ?_
        refine gF_ff_first X hP d_FF_rename_24 ?_
        obtain ⟨v12, e1, h⟩ := bd_some h
        refine fx_i X (fx_runV (As := [.int x1, .ref (ad 13)]) X (m_Tre_slotOf_2 e1 _) hP hD kv_FF_187 ⟨Nat.le_of_ble_eq_true rfl, Nat.le_of_ble_eq_true rfl⟩ 7 rfl rfl rfl hl.1 rfl (Nat.le_of_ble_eq_true rfl) d_FF_rename_27) hD hS (fun H locs hP hD hS => ?_)
        refine lv_istore hx hb d_FF_rename_30 hl (by decide) rfl (fun ls hl => ?_)
        have hl : lv_has ls 10 [(5, .int v12), (0, .ref (ad 0)), (1, .int x1), (2, .int x2), (3, .int x3), (4, .int x4)] := hl
        refine lv_aload_n hx hb d_FF_rename_32 rfl (lv_at hl 1 rfl) ?_
        refine gF_ff_tree X hP d_FF_rename_33 ?_
        refine lv_iload_n hx hb d_FF_rename_36 rfl (lv_at hl 4 rfl) ?_
        refine lv_aload_n hx hb d_FF_rename_37 rfl (lv_at hl 1 rfl) ?_
        refine gF_ff_second X hP d_FF_rename_38 ?_
        obtain ⟨v13, e1, h⟩ := bd_some h
        refine fx_i X (fx_runV (As := [.int x3, .ref (ad 14)]) X (m_Tre_slotOf_3 e1 _) hP hD kv_FF_187 ⟨Nat.le_of_ble_eq_true rfl, Nat.le_of_ble_eq_true rfl⟩ 7 rfl rfl rfl hl.1 rfl (Nat.le_of_ble_eq_true rfl) d_FF_rename_41) hD hS (fun H locs hP hD hS => ?_)
        refine lv_istore hx hb d_FF_rename_44 hl (by decide) rfl (fun ls hl => ?_)
        have hl : lv_has ls 10 [(6, .int v13), (5, .int v12), (0, .ref (ad 0)), (1, .int x1), (2, .int x2), (3, .int x3), (4, .int x4)] := hl
        refine lv_aload_n hx hb d_FF_rename_46 rfl (lv_at hl 2 rfl) ?_
        refine gF_ff_tree X hP d_FF_rename_47 ?_
        refine lv_iload_n hx hb d_FF_rename_50 rfl (lv_at hl 3 rfl) ?_
        refine lv_iload hx hb d_FF_rename_51 (lv_at hl 1 rfl) ?_
        obtain ⟨v14, e1, h⟩ := bd_some h
        refine fx_i X (fx_runV (As := [.int x1, .int v12]) X (m_Tre_idIn e1 _) hP hD kv_FF_165 ⟨Nat.le_of_ble_eq_true rfl, Nat.le_of_ble_eq_true rfl⟩ 7 rfl rfl rfl hl.1 rfl (Nat.le_of_ble_eq_true rfl) d_FF_rename_53) hD hS (fun H locs hP hD hS => ?_)
        refine lv_istore hx hb d_FF_rename_56 hl (by decide) rfl (fun ls hl => ?_)
        have hl : lv_has ls 10 [(7, .int v14), (6, .int v13), (5, .int v12), (0, .ref (ad 0)), (1, .int x1), (2, .int x2), (3, .int x3), (4, .int x4)] := hl
        refine lv_aload_n hx hb d_FF_rename_58 rfl (lv_at hl 3 rfl) ?_
        refine gF_ff_tree X hP d_FF_rename_59 ?_
        refine lv_iload_n hx hb d_FF_rename_62 rfl (lv_at hl 6 rfl) ?_
        refine lv_iload hx hb d_FF_rename_63 (lv_at hl 1 rfl) ?_
        obtain ⟨v15, e1, h⟩ := bd_some h
        refine fx_i X (fx_runV (As := [.int x3, .int v13]) X (m_Tre_idIn e1 _) hP hD kv_FF_165 ⟨Nat.le_of_ble_eq_true rfl, Nat.le_of_ble_eq_true rfl⟩ 7 rfl rfl rfl hl.1 rfl (Nat.le_of_ble_eq_true rfl) d_FF_rename_65) hD hS (fun H locs hP hD hS => ?_)
        refine lv_istore hx hb d_FF_rename_68 hl (by decide) rfl (fun ls hl => ?_)
        have hl : lv_has ls 10 [(8, .int v15), (7, .int v14), (6, .int v13), (5, .int v12), (0, .ref (ad 0)), (1, .int x1), (2, .int x2), (3, .int x3), (4, .int x4)] := hl
        refine lv_iload hx hb d_FF_rename_70 (lv_at hl 1 rfl) ?_
        refine lv_if_eq (tgt := 86) hx hb d_FF_rename_72 (by decide) (fun hc => ?_) (fun hc => ?_)
        · have h := if_t hc h
          exact v_FF_rename_86 X  hE hZ htr hP hD hS (lv_sub hl [4, 5, 7, 3, 2, 1, 0] rfl) h
        · have h := if_f hc h
          refine lv_iload hx hb d_FF_rename_75 (lv_at hl 1 rfl) ?_
          refine lv_iload hx hb d_FF_rename_77 (lv_at hl 0 rfl) ?_
          refine lv_icmp_ne (tgt := 86) hx hb d_FF_rename_79 (by decide) (fun hc => ?_) (fun hc => ?_)
          · have h := if_f hc h
            exact v_FF_rename_86 X  hE hZ htr hP hD hS (lv_sub hl [4, 5, 7, 3, 2, 1, 0] rfl) h
          · have h := if_t hc h
            refine lv_iconst (v := 1) hx hb d_FF_rename_82 (by decide) ?_
            refine lv_goto (tgt := 87) hx hb d_FF_rename_83 (by decide) ?_
            exact v_FF_rename_87 X  hE hZ htr hP hD hS (lv_sub hl [4, 5, 7, 3, 2, 1, 0] rfl) h
      · have h := if_f hk h
        cases h
        exact xx_leave X hE hk hP hD hS hce hcv hcl (Nat.le_refl _) (Nat.le_refl _)
    · have h := if_f hk h
      cases h
      exact xx_leave X hE hk hP hD hS hce hcv hcl (Nat.le_refl _) (Nat.le_refl _)
  · have h := if_f hk h
    cases h
    exact xx_leave X hE hk hP hD hS hce hcv hcl (Nat.le_refl _) (Nat.le_refl _)
theorem d_FF_find_0 : decode prog_1_method_11_code 0 = .ok (.aload_n 0, 1) := by decide +kernel
theorem d_FF_find_1 : decode prog_1_method_11_code 1 = .ok (.iload_n 1, 1) := by decide +kernel
theorem d_FF_find_2 : decode prog_1_method_11_code 2 = .ok (.aload_n 0, 1) := by decide +kernel
theorem d_FF_find_3 : decode prog_1_method_11_code 3 = .ok (.iload_n 2, 1) := by decide +kernel
theorem d_FF_find_4 : decode prog_1_method_11_code 4 = .ok (.invokevirtual 130, 3) := by decide +kernel
theorem d_FF_find_7 : decode prog_1_method_11_code 7 = .ok (.invokevirtual 159, 3) := by decide +kernel
theorem d_FF_find_10 : decode prog_1_method_11_code 10 = .ok (.aload_n 0, 1) := by decide +kernel
theorem d_FF_find_11 : decode prog_1_method_11_code 11 = .ok (.getfield 63, 3) := by decide +kernel
theorem d_FF_find_14 : decode prog_1_method_11_code 14 = .ok (.iload_n 1, 1) := by decide +kernel
theorem d_FF_find_15 : decode prog_1_method_11_code 15 = .ok (.aload_n 0, 1) := by decide +kernel
theorem d_FF_find_16 : decode prog_1_method_11_code 16 = .ok (.getfield 21, 3) := by decide +kernel
theorem d_FF_find_19 : decode prog_1_method_11_code 19 = .ok (.invokevirtual 187, 3) := by decide +kernel
theorem d_FF_find_22 : decode prog_1_method_11_code 22 = .ok (.istore_n 3, 1) := by decide +kernel
theorem d_FF_find_23 : decode prog_1_method_11_code 23 = .ok (.iload_n 3, 1) := by decide +kernel
theorem d_FF_find_24 : decode prog_1_method_11_code 24 = .ok (.ifCond .ge 7, 3) := by decide +kernel
theorem d_FF_find_27 : decode prog_1_method_11_code 27 = .ok (.iconst (-1), 1) := by decide +kernel
theorem d_FF_find_28 : decode prog_1_method_11_code 28 = .ok (.goto 12, 3) := by decide +kernel
theorem d_FF_find_31 : decode prog_1_method_11_code 31 = .ok (.aload_n 0, 1) := by decide +kernel
theorem d_FF_find_32 : decode prog_1_method_11_code 32 = .ok (.getfield 63, 3) := by decide +kernel
theorem d_FF_find_35 : decode prog_1_method_11_code 35 = .ok (.iload_n 1, 1) := by decide +kernel
theorem d_FF_find_36 : decode prog_1_method_11_code 36 = .ok (.iload_n 3, 1) := by decide +kernel
theorem d_FF_find_37 : decode prog_1_method_11_code 37 = .ok (.invokevirtual 165, 3) := by decide +kernel
theorem d_FF_find_40 : decode prog_1_method_11_code 40 = .ok (.ireturn, 1) := by decide +kernel
set_option maxHeartbeats 4000000 in
set_option maxRecDepth 100000 in
theorem m_FF_find {l : Launch} {D : va_G} {ad : Nat → Nat} {ca : Nat → ClassId} {FU : Nat} {x1 : Int32} {x2 : Int32} {g : St} {q : Nat × Int32 × St} (h : FF_find FU x1 x2 g = some q) : CX l ⟨"FlashFiles", "find", "(II)I"⟩ prog_1_method_11_code 4 8 (some .int) D (tyF ca) (wF ad ca g) [.ref (ad 0), .int x1, .int x2] q.1 (some (.int q.2.1)) (wF ad ca q.2.2) := by
  refine CX.fx (by decide) (Nat.le_of_ble_eq_true rfl) ?_
  intro p e s m below meth c A ls X hE hZ htr hP hD hl
  have hl : lv_has ls 4 [(0, .ref (ad 0)), (1, .int x1), (2, .int x2)] := hl
  have hS : va_S A s.heap s.heap [] := va_S.rf
  have hx := X.1
  have hb := X.2.1
  unfold FF_find at h
  refine lv_aload_n hx hb d_FF_find_0 rfl (lv_at hl 0 rfl) ?_
  refine lv_iload_n hx hb d_FF_find_1 rfl (lv_at hl 1 rfl) ?_
  refine lv_aload_n hx hb d_FF_find_2 rfl (lv_at hl 0 rfl) ?_
  refine lv_iload_n hx hb d_FF_find_3 rfl (lv_at hl 2 rfl) ?_
  obtain ⟨p1, e1, h⟩ := bd_some h
  refine xx_V (As := [.int x2]) X (m_FF_takeName e1) hZ htr hP hD hS kv_FF_130 ⟨⟨Nat.le_of_ble_eq_true rfl, Nat.le_of_ble_eq_true rfl⟩, Nat.le_of_ble_eq_true rfl, Nat.le_of_ble_eq_true rfl⟩ 0 rfl rfl rfl hl.1 rfl (Nat.le_of_ble_eq_true rfl) d_FF_find_4 (fun hk H locs hP hD hS => ?_) (fun hk H locs q9 ce hP hD hS hce hcv hcl => ?_)
  · have h := if_t hk h
    refine W.eq (g2 := F0 m 7 ls [.int p1.2.1, .int x1, .ref (ad 0)]) rfl ?_
    obtain ⟨p2, e1, h⟩ := bd_some h
    refine xx_V (As := [.int x1, .int p1.2.1]) X (m_FF_requireNamed e1) hZ htr hP hD hS kv_FF_159 ⟨⟨Nat.le_of_ble_eq_true rfl, Nat.le_of_ble_eq_true rfl⟩, Nat.le_of_ble_eq_true rfl, Nat.le_of_ble_eq_true rfl⟩ 0 rfl rfl rfl hl.1 rfl (Nat.le_of_ble_eq_true rfl) d_FF_find_7 (fun hk H locs hP hD hS => ?_) (fun hk H locs q9 ce hP hD hS hce hcv hcl => ?_)
    · have h := if_t hk h
      refine W.eq (g2 := F0 m 10 ls []) rfl ?_
      refine lv_aload_n hx hb d_FF_find_10 rfl (lv_at hl 0 rfl) ?_
      refine gF_ff_tree X hP d_FF_find_11 ?_
      refine lv_iload_n hx hb d_FF_find_14 rfl (lv_at hl 1 rfl) ?_
      refine lv_aload_n hx hb d_FF_find_15 rfl (lv_at hl 0 rfl) ?_
      refine gF_ff_first X hP d_FF_find_16 ?_
      obtain ⟨v3, e1, h⟩ := bd_some h
      refine fx_i X (fx_runV (As := [.int x1, .ref (ad 13)]) X (m_Tre_slotOf_2 e1 _) hP hD kv_FF_187 ⟨Nat.le_of_ble_eq_true rfl, Nat.le_of_ble_eq_true rfl⟩ 7 rfl rfl rfl hl.1 rfl (Nat.le_of_ble_eq_true rfl) d_FF_find_19) hD hS (fun H locs hP hD hS => ?_)
      refine lv_istore_n hx hb d_FF_find_22 rfl hl (by decide) rfl (fun ls hl => ?_)
      have hl : lv_has ls 4 [(3, .int v3), (0, .ref (ad 0)), (1, .int x1), (2, .int x2)] := hl
      refine lv_iload_n hx hb d_FF_find_23 rfl (lv_at hl 0 rfl) ?_
      refine lv_if_ge (tgt := 31) hx hb d_FF_find_24 (by decide) (fun hc => ?_) (fun hc => ?_)
      · have h := if_t hc h
        refine lv_aload_n hx hb d_FF_find_31 rfl (lv_at hl 1 rfl) ?_
        refine gF_ff_tree X hP d_FF_find_32 ?_
        refine lv_iload_n hx hb d_FF_find_35 rfl (lv_at hl 2 rfl) ?_
        refine lv_iload_n hx hb d_FF_find_36 rfl (lv_at hl 0 rfl) ?_
        obtain ⟨v4, e1, h⟩ := bd_some h
        refine fx_i X (fx_runV (As := [.int x1, .int v3]) X (m_Tre_idIn e1 _) hP hD kv_FF_165 ⟨Nat.le_of_ble_eq_true rfl, Nat.le_of_ble_eq_true rfl⟩ 7 rfl rfl rfl hl.1 rfl (Nat.le_of_ble_eq_true rfl) d_FF_find_37) hD hS (fun H locs hP hD hS => ?_)
        cases h
        exact xx_iret X hP hD hS d_FF_find_40
      · have h := if_f hc h
        refine lv_iconst (v := -1) hx hb d_FF_find_27 (by decide) ?_
        refine lv_goto (tgt := 40) hx hb d_FF_find_28 (by decide) ?_
        cases h
        exact xx_iret X hP hD hS d_FF_find_40
    · have h := if_f hk h
      cases h
      exact xx_leave X hE hk hP hD hS hce hcv hcl (Nat.le_refl _) (Nat.le_refl _)
  · have h := if_f hk h
    cases h
    exact xx_leave X hE hk hP hD hS hce hcv hcl (Nat.le_refl _) (Nat.le_refl _)
theorem d_FF_write_0 : decode prog_1_method_12_code 0 = .ok (.aload_n 0, 1) := by decide +kernel
theorem d_FF_write_1 : decode prog_1_method_12_code 1 = .ok (.invokevirtual 204, 3) := by decide +kernel
theorem d_FF_write_4 : decode prog_1_method_12_code 4 = .ok (.aload_n 0, 1) := by decide +kernel
theorem d_FF_write_5 : decode prog_1_method_12_code 5 = .ok (.getfield 14, 3) := by decide +kernel
theorem d_FF_write_8 : decode prog_1_method_12_code 8 = .ok (.invokevirtual 115, 3) := by decide +kernel
theorem d_FF_write_11 : decode prog_1_method_12_code 11 = .ok (.istore 4, 2) := by decide +kernel
theorem d_FF_write_13 : decode prog_1_method_12_code 13 = .ok (.aload_n 0, 1) := by decide +kernel
theorem d_FF_write_14 : decode prog_1_method_12_code 14 = .ok (.getfield 14, 3) := by decide +kernel
theorem d_FF_write_17 : decode prog_1_method_12_code 17 = .ok (.iconst 0, 1) := by decide +kernel
theorem d_FF_write_18 : decode prog_1_method_12_code 18 = .ok (.invokevirtual 127, 3) := by decide +kernel
theorem d_FF_write_21 : decode prog_1_method_12_code 21 = .ok (.aload_n 0, 1) := by decide +kernel
theorem d_FF_write_22 : decode prog_1_method_12_code 22 = .ok (.iload_n 1, 1) := by decide +kernel
theorem d_FF_write_23 : decode prog_1_method_12_code 23 = .ok (.invokevirtual 148, 3) := by decide +kernel
theorem d_FF_write_26 : decode prog_1_method_12_code 26 = .ok (.iload_n 3, 1) := by decide +kernel
theorem d_FF_write_27 : decode prog_1_method_12_code 27 = .ok (.iconst 1, 1) := by decide +kernel
theorem d_FF_write_28 : decode prog_1_method_12_code 28 = .ok (.if_icmp .lt 28, 3) := by decide +kernel
theorem d_FF_write_31 : decode prog_1_method_12_code 31 = .ok (.iload_n 3, 1) := by decide +kernel
theorem d_FF_write_32 : decode prog_1_method_12_code 32 = .ok (.sipush 2000, 3) := by decide +kernel
theorem d_FF_write_35 : decode prog_1_method_12_code 35 = .ok (.if_icmp .gt 21, 3) := by decide +kernel
theorem d_FF_write_38 : decode prog_1_method_12_code 38 = .ok (.iload_n 3, 1) := by decide +kernel
theorem d_FF_write_39 : decode prog_1_method_12_code 39 = .ok (.iload 4, 2) := by decide +kernel
theorem d_FF_write_41 : decode prog_1_method_12_code 41 = .ok (.if_icmp .gt 15, 3) := by decide +kernel
theorem d_FF_write_44 : decode prog_1_method_12_code 44 = .ok (.iload_n 2, 1) := by decide +kernel
theorem d_FF_write_45 : decode prog_1_method_12_code 45 = .ok (.ifCond .lt 11, 3) := by decide +kernel
theorem d_FF_write_48 : decode prog_1_method_12_code 48 = .ok (.iload_n 2, 1) := by decide +kernel
theorem d_FF_write_49 : decode prog_1_method_12_code 49 = .ok (.ldc 207, 2) := by decide +kernel
theorem d_FF_write_51 : decode prog_1_method_12_code 51 = .ok (.iload_n 3, 1) := by decide +kernel
theorem d_FF_write_52 : decode prog_1_method_12_code 52 = .ok (.isub, 1) := by decide +kernel
theorem d_FF_write_53 : decode prog_1_method_12_code 53 = .ok (.if_icmp .le 13, 3) := by decide +kernel
theorem d_FF_write_56 : decode prog_1_method_12_code 56 = .ok (.new 98, 3) := by decide +kernel
theorem d_FF_write_59 : decode prog_1_method_12_code 59 = .ok (.dup, 1) := by decide +kernel
theorem d_FF_write_60 : decode prog_1_method_12_code 60 = .ok (.ldc 208, 2) := by decide +kernel
theorem d_FF_write_62 : decode prog_1_method_12_code 62 = .ok (.invokespecial 102, 3) := by decide +kernel
theorem d_FF_write_65 : decode prog_1_method_12_code 65 = .ok (.athrow, 1) := by decide +kernel
theorem d_FF_write_66 : decode prog_1_method_12_code 66 = .ok (.aload_n 0, 1) := by decide +kernel
theorem d_FF_write_67 : decode prog_1_method_12_code 67 = .ok (.iload_n 2, 1) := by decide +kernel
theorem d_FF_write_68 : decode prog_1_method_12_code 68 = .ok (.iload_n 3, 1) := by decide +kernel
theorem d_FF_write_69 : decode prog_1_method_12_code 69 = .ok (.iadd, 1) := by decide +kernel
theorem d_FF_write_70 : decode prog_1_method_12_code 70 = .ok (.iconst 1, 1) := by decide +kernel
theorem d_FF_write_71 : decode prog_1_method_12_code 71 = .ok (.isub, 1) := by decide +kernel
theorem d_FF_write_72 : decode prog_1_method_12_code 72 = .ok (.sipush 256, 3) := by decide +kernel
theorem d_FF_write_75 : decode prog_1_method_12_code 75 = .ok (.idiv, 1) := by decide +kernel
theorem d_FF_write_76 : decode prog_1_method_12_code 76 = .ok (.iload_n 2, 1) := by decide +kernel
theorem d_FF_write_77 : decode prog_1_method_12_code 77 = .ok (.sipush 256, 3) := by decide +kernel
theorem d_FF_write_80 : decode prog_1_method_12_code 80 = .ok (.idiv, 1) := by decide +kernel
theorem d_FF_write_81 : decode prog_1_method_12_code 81 = .ok (.isub, 1) := by decide +kernel
theorem d_FF_write_82 : decode prog_1_method_12_code 82 = .ok (.iconst 1, 1) := by decide +kernel
theorem d_FF_write_83 : decode prog_1_method_12_code 83 = .ok (.iadd, 1) := by decide +kernel
theorem d_FF_write_84 : decode prog_1_method_12_code 84 = .ok (.bipush 6, 2) := by decide +kernel
theorem d_FF_write_86 : decode prog_1_method_12_code 86 = .ok (.iadd, 1) := by decide +kernel
theorem d_FF_write_87 : decode prog_1_method_12_code 87 = .ok (.invokevirtual 141, 3) := by decide +kernel
theorem d_FF_write_90 : decode prog_1_method_12_code 90 = .ok (.aload_n 0, 1) := by decide +kernel
theorem d_FF_write_91 : decode prog_1_method_12_code 91 = .ok (.getfield 56, 3) := by decide +kernel
theorem d_FF_write_94 : decode prog_1_method_12_code 94 = .ok (.iload_n 1, 1) := by decide +kernel
theorem d_FF_write_95 : decode prog_1_method_12_code 95 = .ok (.iload_n 2, 1) := by decide +kernel
theorem d_FF_write_96 : decode prog_1_method_12_code 96 = .ok (.iload_n 3, 1) := by decide +kernel
theorem d_FF_write_97 : decode prog_1_method_12_code 97 = .ok (.aload_n 0, 1) := by decide +kernel
theorem d_FF_write_98 : decode prog_1_method_12_code 98 = .ok (.getfield 14, 3) := by decide +kernel
theorem d_FF_write_101 : decode prog_1_method_12_code 101 = .ok (.invokevirtual 210, 3) := by decide +kernel
theorem d_FF_write_104 : decode prog_1_method_12_code 104 = .ok (.ireturn, 1) := by decide +kernel
set_option maxHeartbeats 4000000 in
set_option maxRecDepth 100000 in
theorem m_FF_write {l : Launch} {D : va_G} {ad : Nat → Nat} {ca : Nat → ClassId} {FU : Nat} {x1 : Int32} {x2 : Int32} {x3 : Int32} {g : St} {q : Nat × Int32 × St} (h : FF_write FU x1 x2 x3 g = some q) : CX l ⟨"FlashFiles", "write", "(III)I"⟩ prog_1_method_12_code 5 10 (some .int) D (tyF ca) (wF ad ca g) [.ref (ad 0), .int x1, .int x2, .int x3] q.1 (some (.int q.2.1)) (wF ad ca q.2.2) := by
  refine CX.fx (by decide) (Nat.le_of_ble_eq_true rfl) ?_
  intro p e s m below meth c A ls X hE hZ htr hP hD hl
  have hl : lv_has ls 5 [(0, .ref (ad 0)), (1, .int x1), (2, .int x2), (3, .int x3)] := hl
  have hS : va_S A s.heap s.heap [] := va_S.rf
  have hx := X.1
  have hb := X.2.1
  unfold FF_write at h
  refine lv_aload_n hx hb d_FF_write_0 rfl (lv_at hl 0 rfl) ?_
  obtain ⟨p1, e1, h⟩ := bd_some h
  refine xx_V (As := []) X (m_FF_requirePower e1) hZ htr hP hD hS kv_FF_204 ⟨⟨Nat.le_of_ble_eq_true rfl, Nat.le_of_ble_eq_true rfl⟩, Nat.le_of_ble_eq_true rfl, Nat.le_of_ble_eq_true rfl⟩ 0 rfl rfl rfl hl.1 rfl (Nat.le_of_ble_eq_true rfl) d_FF_write_1 (fun hk H locs hP hD hS => ?_) (fun hk H locs q9 ce hP hD hS hce hcv hcl => ?_)
  · have h := if_t hk h
    refine W.eq (g2 := F0 m 4 ls []) rfl ?_
    refine lv_aload_n hx hb d_FF_write_4 rfl (lv_at hl 0 rfl) ?_
    refine gF_ff_onTape X hP d_FF_write_5 ?_
    obtain ⟨v2, e1, h⟩ := bd_some h
    refine fx_i X (fx_runV (As := []) X (m_Row_length_0 e1 _) hP hD kv_FF_115 ⟨Nat.le_of_ble_eq_true rfl, Nat.le_of_ble_eq_true rfl⟩ 1 rfl rfl rfl hl.1 rfl (Nat.le_of_ble_eq_true rfl) d_FF_write_8) hD hS (fun H locs hP hD hS => ?_)
    refine lv_istore hx hb d_FF_write_11 hl (by decide) rfl (fun ls hl => ?_)
    have hl : lv_has ls 5 [(4, .int v2), (0, .ref (ad 0)), (1, .int x1), (2, .int x2), (3, .int x3)] := hl
    refine lv_aload_n hx hb d_FF_write_13 rfl (lv_at hl 1 rfl) ?_
    refine gF_ff_onTape X hP d_FF_write_14 ?_
    refine lv_iconst (v := 0) hx hb d_FF_write_17 (by decide) ?_
    obtain ⟨p3, e1, h⟩ := bd_some h
    refine fx_v X (fx_runV (As := [.int (0 : Int32)]) X (m_Row_setLength_0 e1 _) hP hD kv_FF_127 ⟨Nat.le_of_ble_eq_true rfl, Nat.le_of_ble_eq_true rfl⟩ 1 rfl rfl rfl hl.1 rfl (Nat.le_of_ble_eq_true rfl) d_FF_write_18) hD hS (fun H locs hP hD hS => ?_)
    refine lv_aload_n hx hb d_FF_write_21 rfl (lv_at hl 1 rfl) ?_
    refine lv_iload_n hx hb d_FF_write_22 rfl (lv_at hl 2 rfl) ?_
    obtain ⟨p4, e1, h⟩ := bd_some h
    refine xx_V (As := [.int x1]) X (m_FF_requireFile e1) hZ htr hP hD hS kv_FF_148 ⟨⟨Nat.le_of_ble_eq_true rfl, Nat.le_of_ble_eq_true rfl⟩, Nat.le_of_ble_eq_true rfl, Nat.le_of_ble_eq_true rfl⟩ 0 rfl rfl rfl hl.1 rfl (Nat.le_of_ble_eq_true rfl) d_FF_write_23 (fun hk H locs hP hD hS => ?_) (fun hk H locs q9 ce hP hD hS hce hcv hcl => ?_)
    · have h := if_t hk h
      refine W.eq (g2 := F0 m 26 ls []) rfl ?_
      refine lv_iload_n hx hb d_FF_write_26 rfl (lv_at hl 4 rfl) ?_
      refine lv_iconst (v := 1) hx hb d_FF_write_27 (by decide) ?_
      refine lv_icmp_lt (tgt := 56) hx hb d_FF_write_28 (by decide) (fun hc => ?_) (fun hc => ?_)
      · have h := if_t hc h
        cases h
        exact xx_throwS (k := 1) (ik := 98) (is := 208) (ic := 102) (text := "no such bytes or place") (names := exN) X hE hZ htr (by decide) hP hD hS (by decide) (by decide) at_1_102 cl_98 in_E1 (List.mem_of_getElem? (i := 20) rfl) hl.1 d_FF_write_56 d_FF_write_59 d_FF_write_60 d_FF_write_62 d_FF_write_65 ⟨⟨by decide, Nat.le_of_ble_eq_true rfl⟩, by decide, by decide⟩
      · have h := if_f hc h
        refine lv_iload_n hx hb d_FF_write_31 rfl (lv_at hl 4 rfl) ?_
        refine lv_sipush (v := 2000) hx hb d_FF_write_32 (by decide) ?_
        refine lv_icmp_gt (tgt := 56) hx hb d_FF_write_35 (by decide) (fun hc => ?_) (fun hc => ?_)
        · have h := if_t hc h
          cases h
          exact xx_throwS (k := 1) (ik := 98) (is := 208) (ic := 102) (text := "no such bytes or place") (names := exN) X hE hZ htr (by decide) hP hD hS (by decide) (by decide) at_1_102 cl_98 in_E1 (List.mem_of_getElem? (i := 20) rfl) hl.1 d_FF_write_56 d_FF_write_59 d_FF_write_60 d_FF_write_62 d_FF_write_65 ⟨⟨by decide, Nat.le_of_ble_eq_true rfl⟩, by decide, by decide⟩
        · have h := if_f hc h
          refine lv_iload_n hx hb d_FF_write_38 rfl (lv_at hl 4 rfl) ?_
          refine lv_iload hx hb d_FF_write_39 (lv_at hl 0 rfl) ?_
          refine lv_icmp_gt (tgt := 56) hx hb d_FF_write_41 (by decide) (fun hc => ?_) (fun hc => ?_)
          · have h := if_t hc h
            cases h
            exact xx_throwS (k := 1) (ik := 98) (is := 208) (ic := 102) (text := "no such bytes or place") (names := exN) X hE hZ htr (by decide) hP hD hS (by decide) (by decide) at_1_102 cl_98 in_E1 (List.mem_of_getElem? (i := 20) rfl) hl.1 d_FF_write_56 d_FF_write_59 d_FF_write_60 d_FF_write_62 d_FF_write_65 ⟨⟨by decide, Nat.le_of_ble_eq_true rfl⟩, by decide, by decide⟩
          · have h := if_f hc h
            refine lv_iload_n hx hb d_FF_write_44 rfl (lv_at hl 3 rfl) ?_
            refine lv_if_lt (tgt := 56) hx hb d_FF_write_45 (by decide) (fun hc => ?_) (fun hc => ?_)
            · have h := if_t hc h
              cases h
              exact xx_throwS (k := 1) (ik := 98) (is := 208) (ic := 102) (text := "no such bytes or place") (names := exN) X hE hZ htr (by decide) hP hD hS (by decide) (by decide) at_1_102 cl_98 in_E1 (List.mem_of_getElem? (i := 20) rfl) hl.1 d_FF_write_56 d_FF_write_59 d_FF_write_60 d_FF_write_62 d_FF_write_65 ⟨⟨by decide, Nat.le_of_ble_eq_true rfl⟩, by decide, by decide⟩
            · have h := if_f hc h
              refine lv_iload_n hx hb d_FF_write_48 rfl (lv_at hl 3 rfl) ?_
              refine lv_ldc (v := 100000) hx hb X.2.2.2.2.2.1 (X.2.2.2.2.2.2.1.use q6_1) d_FF_write_49 ?_
              refine lv_iload_n hx hb d_FF_write_51 rfl (lv_at hl 4 rfl) ?_
              refine lv_isub hx hb d_FF_write_52 ?_
              refine lv_icmp_le (tgt := 66) hx hb d_FF_write_53 (by decide) (fun hc => ?_) (fun hc => ?_)
              · have h := if_t hc h
                refine lv_aload_n hx hb d_FF_write_66 rfl (lv_at hl 1 rfl) ?_
                refine lv_iload_n hx hb d_FF_write_67 rfl (lv_at hl 3 rfl) ?_
                refine lv_iload_n hx hb d_FF_write_68 rfl (lv_at hl 4 rfl) ?_
                refine lv_iadd hx hb d_FF_write_69 ?_
                refine lv_iconst (v := 1) hx hb d_FF_write_70 (by decide) ?_
                refine lv_isub hx hb d_FF_write_71 ?_
                refine lv_sipush (v := 256) hx hb d_FF_write_72 (by decide) ?_
                refine lv_idiv hx hb d_FF_write_75 (by decide) ?_
                refine lv_iload_n hx hb d_FF_write_76 rfl (lv_at hl 3 rfl) ?_
                refine lv_sipush (v := 256) hx hb d_FF_write_77 (by decide) ?_
                refine lv_idiv hx hb d_FF_write_80 (by decide) ?_
                refine lv_isub hx hb d_FF_write_81 ?_
                refine lv_iconst (v := 1) hx hb d_FF_write_82 (by decide) ?_
                refine lv_iadd hx hb d_FF_write_83 ?_
                refine lv_bipush (v := 6) hx hb d_FF_write_84 (by decide) ?_
                refine lv_iadd hx hb d_FF_write_86 ?_
                obtain ⟨p5, e1, h⟩ := bd_some h
                refine xx_V (As := [.int ((((((x2 + x3) - (1 : Int32)) / (256 : Int32)) - (x2 / (256 : Int32))) + (1 : Int32)) + (6 : Int32))]) X (m_FF_reserve e1) hZ htr hP hD hS kv_FF_141 ⟨⟨Nat.le_of_ble_eq_true rfl, Nat.le_of_ble_eq_true rfl⟩, Nat.le_of_ble_eq_true rfl, Nat.le_of_ble_eq_true rfl⟩ 0 rfl rfl rfl hl.1 rfl (Nat.le_of_ble_eq_true rfl) d_FF_write_87 (fun hk H locs hP hD hS => ?_) (fun hk H locs q9 ce hP hD hS hce hcv hcl => ?_)
                · have h := if_t hk h
                  refine W.eq (g2 := F0 m 90 ls []) rfl ?_
                  refine lv_aload_n hx hb d_FF_write_90 rfl (lv_at hl 1 rfl) ?_
                  refine gF_ff_files X hP d_FF_write_91 ?_
                  refine lv_iload_n hx hb d_FF_write_94 rfl (lv_at hl 2 rfl) ?_
                  refine lv_iload_n hx hb d_FF_write_95 rfl (lv_at hl 3 rfl) ?_
                  refine lv_iload_n hx hb d_FF_write_96 rfl (lv_at hl 4 rfl) ?_
                  refine lv_aload_n hx hb d_FF_write_97 rfl (lv_at hl 1 rfl) ?_
                  refine gF_ff_onTape X hP d_FF_write_98 ?_
                  obtain ⟨p6, e1, h⟩ := bd_some h
                  refine fx_i X (fx_runV (As := [.int x1, .int x2, .int x3, .ref (ad 1)]) X (m_Fil_putBytes_0 e1 _) hP hD kv_FF_210 ⟨Nat.le_of_ble_eq_true rfl, Nat.le_of_ble_eq_true rfl⟩ 6 rfl rfl rfl hl.1 rfl (Nat.le_of_ble_eq_true rfl) d_FF_write_101) hD hS (fun H locs hP hD hS => ?_)
                  cases h
                  exact xx_iret X hP hD hS d_FF_write_104
                · have h := if_f hk h
                  cases h
                  exact xx_leave X hE hk hP hD hS hce hcv hcl (Nat.le_refl _) (Nat.le_refl _)
              · have h := if_f hc h
                cases h
                exact xx_throwS (k := 1) (ik := 98) (is := 208) (ic := 102) (text := "no such bytes or place") (names := exN) X hE hZ htr (by decide) hP hD hS (by decide) (by decide) at_1_102 cl_98 in_E1 (List.mem_of_getElem? (i := 20) rfl) hl.1 d_FF_write_56 d_FF_write_59 d_FF_write_60 d_FF_write_62 d_FF_write_65 ⟨⟨by decide, Nat.le_of_ble_eq_true rfl⟩, by decide, by decide⟩
    · have h := if_f hk h
      cases h
      exact xx_leave X hE hk hP hD hS hce hcv hcl (Nat.le_refl _) (Nat.le_refl _)
  · have h := if_f hk h
    cases h
    exact xx_leave X hE hk hP hD hS hce hcv hcl (Nat.le_refl _) (Nat.le_refl _)
theorem d_FF_read_0 : decode prog_1_method_13_code 0 = .ok (.aload_n 0, 1) := by decide +kernel
theorem d_FF_read_1 : decode prog_1_method_13_code 1 = .ok (.invokevirtual 204, 3) := by decide +kernel
theorem d_FF_read_4 : decode prog_1_method_13_code 4 = .ok (.aload_n 0, 1) := by decide +kernel
theorem d_FF_read_5 : decode prog_1_method_13_code 5 = .ok (.iload_n 1, 1) := by decide +kernel
theorem d_FF_read_6 : decode prog_1_method_13_code 6 = .ok (.invokevirtual 148, 3) := by decide +kernel
theorem d_FF_read_9 : decode prog_1_method_13_code 9 = .ok (.iload_n 3, 1) := by decide +kernel
theorem d_FF_read_10 : decode prog_1_method_13_code 10 = .ok (.iconst 1, 1) := by decide +kernel
theorem d_FF_read_11 : decode prog_1_method_13_code 11 = .ok (.if_icmp .lt 14, 3) := by decide +kernel
theorem d_FF_read_14 : decode prog_1_method_13_code 14 = .ok (.iload_n 3, 1) := by decide +kernel
theorem d_FF_read_15 : decode prog_1_method_13_code 15 = .ok (.sipush 2000, 3) := by decide +kernel
theorem d_FF_read_18 : decode prog_1_method_13_code 18 = .ok (.if_icmp .gt 7, 3) := by decide +kernel
theorem d_FF_read_21 : decode prog_1_method_13_code 21 = .ok (.iload_n 2, 1) := by decide +kernel
theorem d_FF_read_22 : decode prog_1_method_13_code 22 = .ok (.ifCond .ge 13, 3) := by decide +kernel
theorem d_FF_read_25 : decode prog_1_method_13_code 25 = .ok (.new 98, 3) := by decide +kernel
theorem d_FF_read_28 : decode prog_1_method_13_code 28 = .ok (.dup, 1) := by decide +kernel
theorem d_FF_read_29 : decode prog_1_method_13_code 29 = .ok (.ldc 208, 2) := by decide +kernel
theorem d_FF_read_31 : decode prog_1_method_13_code 31 = .ok (.invokespecial 102, 3) := by decide +kernel
theorem d_FF_read_34 : decode prog_1_method_13_code 34 = .ok (.athrow, 1) := by decide +kernel
theorem d_FF_read_35 : decode prog_1_method_13_code 35 = .ok (.aload_n 0, 1) := by decide +kernel
theorem d_FF_read_36 : decode prog_1_method_13_code 36 = .ok (.getfield 56, 3) := by decide +kernel
theorem d_FF_read_39 : decode prog_1_method_13_code 39 = .ok (.iload_n 1, 1) := by decide +kernel
theorem d_FF_read_40 : decode prog_1_method_13_code 40 = .ok (.iload_n 2, 1) := by decide +kernel
theorem d_FF_read_41 : decode prog_1_method_13_code 41 = .ok (.iload_n 3, 1) := by decide +kernel
theorem d_FF_read_42 : decode prog_1_method_13_code 42 = .ok (.aload_n 0, 1) := by decide +kernel
theorem d_FF_read_43 : decode prog_1_method_13_code 43 = .ok (.getfield 18, 3) := by decide +kernel
theorem d_FF_read_46 : decode prog_1_method_13_code 46 = .ok (.invokevirtual 214, 3) := by decide +kernel
theorem d_FF_read_49 : decode prog_1_method_13_code 49 = .ok (.ireturn, 1) := by decide +kernel
set_option maxHeartbeats 4000000 in
set_option maxRecDepth 100000 in
theorem m_FF_read {l : Launch} {D : va_G} {ad : Nat → Nat} {ca : Nat → ClassId} {FU : Nat} {x1 : Int32} {x2 : Int32} {x3 : Int32} {g : St} {q : Nat × Int32 × St} (h : FF_read FU x1 x2 x3 g = some q) : CX l ⟨"FlashFiles", "read", "(III)I"⟩ prog_1_method_13_code 4 8 (some .int) D (tyF ca) (wF ad ca g) [.ref (ad 0), .int x1, .int x2, .int x3] q.1 (some (.int q.2.1)) (wF ad ca q.2.2) := by
  refine CX.fx (by decide) (Nat.le_of_ble_eq_true rfl) ?_
  intro p e s m below meth c A ls X hE hZ htr hP hD hl
  have hl : lv_has ls 4 [(0, .ref (ad 0)), (1, .int x1), (2, .int x2), (3, .int x3)] := hl
  have hS : va_S A s.heap s.heap [] := va_S.rf
  have hx := X.1
  have hb := X.2.1
  unfold FF_read at h
  refine lv_aload_n hx hb d_FF_read_0 rfl (lv_at hl 0 rfl) ?_
  obtain ⟨p1, e1, h⟩ := bd_some h
  refine xx_V (As := []) X (m_FF_requirePower e1) hZ htr hP hD hS kv_FF_204 ⟨⟨Nat.le_of_ble_eq_true rfl, Nat.le_of_ble_eq_true rfl⟩, Nat.le_of_ble_eq_true rfl, Nat.le_of_ble_eq_true rfl⟩ 0 rfl rfl rfl hl.1 rfl (Nat.le_of_ble_eq_true rfl) d_FF_read_1 (fun hk H locs hP hD hS => ?_) (fun hk H locs q9 ce hP hD hS hce hcv hcl => ?_)
  · have h := if_t hk h
    refine W.eq (g2 := F0 m 4 ls []) rfl ?_
    refine lv_aload_n hx hb d_FF_read_4 rfl (lv_at hl 0 rfl) ?_
    refine lv_iload_n hx hb d_FF_read_5 rfl (lv_at hl 1 rfl) ?_
    obtain ⟨p2, e1, h⟩ := bd_some h
    refine xx_V (As := [.int x1]) X (m_FF_requireFile e1) hZ htr hP hD hS kv_FF_148 ⟨⟨Nat.le_of_ble_eq_true rfl, Nat.le_of_ble_eq_true rfl⟩, Nat.le_of_ble_eq_true rfl, Nat.le_of_ble_eq_true rfl⟩ 0 rfl rfl rfl hl.1 rfl (Nat.le_of_ble_eq_true rfl) d_FF_read_6 (fun hk H locs hP hD hS => ?_) (fun hk H locs q9 ce hP hD hS hce hcv hcl => ?_)
    · have h := if_t hk h
      refine W.eq (g2 := F0 m 9 ls []) rfl ?_
      refine lv_iload_n hx hb d_FF_read_9 rfl (lv_at hl 3 rfl) ?_
      refine lv_iconst (v := 1) hx hb d_FF_read_10 (by decide) ?_
      refine lv_icmp_lt (tgt := 25) hx hb d_FF_read_11 (by decide) (fun hc => ?_) (fun hc => ?_)
      · have h := if_t hc h
        cases h
        exact xx_throwS (k := 1) (ik := 98) (is := 208) (ic := 102) (text := "no such bytes or place") (names := exN) X hE hZ htr (by decide) hP hD hS (by decide) (by decide) at_1_102 cl_98 in_E1 (List.mem_of_getElem? (i := 20) rfl) hl.1 d_FF_read_25 d_FF_read_28 d_FF_read_29 d_FF_read_31 d_FF_read_34 ⟨⟨by decide, Nat.le_of_ble_eq_true rfl⟩, by decide, by decide⟩
      · have h := if_f hc h
        refine lv_iload_n hx hb d_FF_read_14 rfl (lv_at hl 3 rfl) ?_
        refine lv_sipush (v := 2000) hx hb d_FF_read_15 (by decide) ?_
        refine lv_icmp_gt (tgt := 25) hx hb d_FF_read_18 (by decide) (fun hc => ?_) (fun hc => ?_)
        · have h := if_t hc h
          cases h
          exact xx_throwS (k := 1) (ik := 98) (is := 208) (ic := 102) (text := "no such bytes or place") (names := exN) X hE hZ htr (by decide) hP hD hS (by decide) (by decide) at_1_102 cl_98 in_E1 (List.mem_of_getElem? (i := 20) rfl) hl.1 d_FF_read_25 d_FF_read_28 d_FF_read_29 d_FF_read_31 d_FF_read_34 ⟨⟨by decide, Nat.le_of_ble_eq_true rfl⟩, by decide, by decide⟩
        · have h := if_f hc h
          refine lv_iload_n hx hb d_FF_read_21 rfl (lv_at hl 2 rfl) ?_
          refine lv_if_ge (tgt := 35) hx hb d_FF_read_22 (by decide) (fun hc => ?_) (fun hc => ?_)
          · have h := if_t hc h
            refine lv_aload_n hx hb d_FF_read_35 rfl (lv_at hl 0 rfl) ?_
            refine gF_ff_files X hP d_FF_read_36 ?_
            refine lv_iload_n hx hb d_FF_read_39 rfl (lv_at hl 1 rfl) ?_
            refine lv_iload_n hx hb d_FF_read_40 rfl (lv_at hl 2 rfl) ?_
            refine lv_iload_n hx hb d_FF_read_41 rfl (lv_at hl 3 rfl) ?_
            refine lv_aload_n hx hb d_FF_read_42 rfl (lv_at hl 0 rfl) ?_
            refine gF_ff_told X hP d_FF_read_43 ?_
            obtain ⟨p3, e1, h⟩ := bd_some h
            refine fx_i X (fx_runV (As := [.int x1, .int x2, .int x3, .ref (ad 2)]) X (m_Fil_tellBytes_1 e1 _) hP hD kv_FF_214 ⟨Nat.le_of_ble_eq_true rfl, Nat.le_of_ble_eq_true rfl⟩ 6 rfl rfl rfl hl.1 rfl (Nat.le_of_ble_eq_true rfl) d_FF_read_46) hD hS (fun H locs hP hD hS => ?_)
            cases h
            exact xx_iret X hP hD hS d_FF_read_49
          · have h := if_f hc h
            cases h
            exact xx_throwS (k := 1) (ik := 98) (is := 208) (ic := 102) (text := "no such bytes or place") (names := exN) X hE hZ htr (by decide) hP hD hS (by decide) (by decide) at_1_102 cl_98 in_E1 (List.mem_of_getElem? (i := 20) rfl) hl.1 d_FF_read_25 d_FF_read_28 d_FF_read_29 d_FF_read_31 d_FF_read_34 ⟨⟨by decide, Nat.le_of_ble_eq_true rfl⟩, by decide, by decide⟩
    · have h := if_f hk h
      cases h
      exact xx_leave X hE hk hP hD hS hce hcv hcl (Nat.le_refl _) (Nat.le_refl _)
  · have h := if_f hk h
    cases h
    exact xx_leave X hE hk hP hD hS hce hcv hcl (Nat.le_refl _) (Nat.le_refl _)
theorem d_FF_byteAt_0 : decode prog_1_method_14_code 0 = .ok (.iload_n 1, 1) := by decide +kernel
theorem d_FF_byteAt_1 : decode prog_1_method_14_code 1 = .ok (.ifCond .ge 13, 3) := by decide +kernel
theorem d_FF_byteAt_4 : decode prog_1_method_14_code 4 = .ok (.new 98, 3) := by decide +kernel
theorem d_FF_byteAt_7 : decode prog_1_method_14_code 7 = .ok (.dup, 1) := by decide +kernel
theorem d_FF_byteAt_8 : decode prog_1_method_14_code 8 = .ok (.ldc 217, 2) := by decide +kernel
theorem d_FF_byteAt_10 : decode prog_1_method_14_code 10 = .ok (.invokespecial 102, 3) := by decide +kernel
theorem d_FF_byteAt_13 : decode prog_1_method_14_code 13 = .ok (.athrow, 1) := by decide +kernel
theorem d_FF_byteAt_14 : decode prog_1_method_14_code 14 = .ok (.iload_n 1, 1) := by decide +kernel
theorem d_FF_byteAt_15 : decode prog_1_method_14_code 15 = .ok (.aload_n 0, 1) := by decide +kernel
theorem d_FF_byteAt_16 : decode prog_1_method_14_code 16 = .ok (.getfield 18, 3) := by decide +kernel
theorem d_FF_byteAt_19 : decode prog_1_method_14_code 19 = .ok (.invokevirtual 115, 3) := by decide +kernel
theorem d_FF_byteAt_22 : decode prog_1_method_14_code 22 = .ok (.if_icmp .ge 14, 3) := by decide +kernel
theorem d_FF_byteAt_25 : decode prog_1_method_14_code 25 = .ok (.aload_n 0, 1) := by decide +kernel
theorem d_FF_byteAt_26 : decode prog_1_method_14_code 26 = .ok (.getfield 18, 3) := by decide +kernel
theorem d_FF_byteAt_29 : decode prog_1_method_14_code 29 = .ok (.iload_n 1, 1) := by decide +kernel
theorem d_FF_byteAt_30 : decode prog_1_method_14_code 30 = .ok (.invokevirtual 219, 3) := by decide +kernel
theorem d_FF_byteAt_33 : decode prog_1_method_14_code 33 = .ok (.goto 4, 3) := by decide +kernel
theorem d_FF_byteAt_36 : decode prog_1_method_14_code 36 = .ok (.iconst (-1), 1) := by decide +kernel
theorem d_FF_byteAt_37 : decode prog_1_method_14_code 37 = .ok (.ireturn, 1) := by decide +kernel
set_option maxHeartbeats 4000000 in
set_option maxRecDepth 100000 in
theorem m_FF_byteAt {l : Launch} {D : va_G} {ad : Nat → Nat} {ca : Nat → ClassId} {FU : Nat} {x1 : Int32} {g : St} {q : Nat × Int32 × St} (h : FF_byteAt FU x1 g = some q) : CX l ⟨"FlashFiles", "byteAt", "(I)I"⟩ prog_1_method_14_code 2 6 (some .int) D (tyF ca) (wF ad ca g) [.ref (ad 0), .int x1] q.1 (some (.int q.2.1)) (wF ad ca q.2.2) := by
  refine CX.fx (by decide) (Nat.le_of_ble_eq_true rfl) ?_
  intro p e s m below meth c A ls X hE hZ htr hP hD hl
  have hl : lv_has ls 2 [(0, .ref (ad 0)), (1, .int x1)] := hl
  have hS : va_S A s.heap s.heap [] := va_S.rf
  have hx := X.1
  have hb := X.2.1
  unfold FF_byteAt at h
  refine lv_iload_n hx hb d_FF_byteAt_0 rfl (lv_at hl 1 rfl) ?_
  refine lv_if_ge (tgt := 14) hx hb d_FF_byteAt_1 (by decide) (fun hc => ?_) (fun hc => ?_)
  · have h := if_t hc h
    refine lv_iload_n hx hb d_FF_byteAt_14 rfl (lv_at hl 1 rfl) ?_
    refine lv_aload_n hx hb d_FF_byteAt_15 rfl (lv_at hl 0 rfl) ?_
    refine gF_ff_told X hP d_FF_byteAt_16 ?_
    obtain ⟨v1, e1, h⟩ := bd_some h
    refine fx_i X (fx_runV (As := []) X (m_Row_length_1 e1 _) hP hD kv_FF_115 ⟨Nat.le_of_ble_eq_true rfl, Nat.le_of_ble_eq_true rfl⟩ 2 rfl rfl rfl hl.1 rfl (Nat.le_of_ble_eq_true rfl) d_FF_byteAt_19) hD hS (fun H locs hP hD hS => ?_)
    refine lv_icmp_ge (tgt := 36) hx hb d_FF_byteAt_22 (by decide) (fun hc => ?_) (fun hc => ?_)
    · have h := if_t hc h
      refine lv_iconst (v := -1) hx hb d_FF_byteAt_36 (by decide) ?_
      cases h
      exact xx_iret X hP hD hS d_FF_byteAt_37
    · have h := if_f hc h
      refine lv_aload_n hx hb d_FF_byteAt_25 rfl (lv_at hl 0 rfl) ?_
      refine gF_ff_told X hP d_FF_byteAt_26 ?_
      refine lv_iload_n hx hb d_FF_byteAt_29 rfl (lv_at hl 1 rfl) ?_
      obtain ⟨v2, e1, h⟩ := bd_some h
      refine fx_i X (fx_runV (As := [.int x1]) X (m_Row_at_1 e1 _) hP hD kv_FF_219 ⟨Nat.le_of_ble_eq_true rfl, Nat.le_of_ble_eq_true rfl⟩ 2 rfl rfl rfl hl.1 rfl (Nat.le_of_ble_eq_true rfl) d_FF_byteAt_30) hD hS (fun H locs hP hD hS => ?_)
      refine lv_goto (tgt := 37) hx hb d_FF_byteAt_33 (by decide) ?_
      cases h
      exact xx_iret X hP hD hS d_FF_byteAt_37
  · have h := if_f hc h
    cases h
    exact xx_throwS (k := 1) (ik := 98) (is := 217) (ic := 102) (text := "below 0") (names := exN) X hE hZ htr (by decide) hP hD hS (by decide) (by decide) at_1_102 cl_98 in_E1 (List.mem_of_getElem? (i := 21) rfl) hl.1 d_FF_byteAt_4 d_FF_byteAt_7 d_FF_byteAt_8 d_FF_byteAt_10 d_FF_byteAt_13 ⟨⟨by decide, Nat.le_of_ble_eq_true rfl⟩, by decide, by decide⟩
theorem d_FF_truncate_0 : decode prog_1_method_15_code 0 = .ok (.aload_n 0, 1) := by decide +kernel
theorem d_FF_truncate_1 : decode prog_1_method_15_code 1 = .ok (.invokevirtual 204, 3) := by decide +kernel
theorem d_FF_truncate_4 : decode prog_1_method_15_code 4 = .ok (.aload_n 0, 1) := by decide +kernel
theorem d_FF_truncate_5 : decode prog_1_method_15_code 5 = .ok (.iload_n 1, 1) := by decide +kernel
theorem d_FF_truncate_6 : decode prog_1_method_15_code 6 = .ok (.invokevirtual 148, 3) := by decide +kernel
theorem d_FF_truncate_9 : decode prog_1_method_15_code 9 = .ok (.iload_n 2, 1) := by decide +kernel
theorem d_FF_truncate_10 : decode prog_1_method_15_code 10 = .ok (.ifCond .lt 9, 3) := by decide +kernel
theorem d_FF_truncate_13 : decode prog_1_method_15_code 13 = .ok (.iload_n 2, 1) := by decide +kernel
theorem d_FF_truncate_14 : decode prog_1_method_15_code 14 = .ok (.ldc 207, 2) := by decide +kernel
theorem d_FF_truncate_16 : decode prog_1_method_15_code 16 = .ok (.if_icmp .le 13, 3) := by decide +kernel
theorem d_FF_truncate_19 : decode prog_1_method_15_code 19 = .ok (.new 98, 3) := by decide +kernel
theorem d_FF_truncate_22 : decode prog_1_method_15_code 22 = .ok (.dup, 1) := by decide +kernel
theorem d_FF_truncate_23 : decode prog_1_method_15_code 23 = .ok (.ldc 222, 2) := by decide +kernel
theorem d_FF_truncate_25 : decode prog_1_method_15_code 25 = .ok (.invokespecial 102, 3) := by decide +kernel
theorem d_FF_truncate_28 : decode prog_1_method_15_code 28 = .ok (.athrow, 1) := by decide +kernel
theorem d_FF_truncate_29 : decode prog_1_method_15_code 29 = .ok (.aload_n 0, 1) := by decide +kernel
theorem d_FF_truncate_30 : decode prog_1_method_15_code 30 = .ok (.bipush 6, 2) := by decide +kernel
theorem d_FF_truncate_32 : decode prog_1_method_15_code 32 = .ok (.invokevirtual 141, 3) := by decide +kernel
theorem d_FF_truncate_35 : decode prog_1_method_15_code 35 = .ok (.aload_n 0, 1) := by decide +kernel
theorem d_FF_truncate_36 : decode prog_1_method_15_code 36 = .ok (.getfield 56, 3) := by decide +kernel
theorem d_FF_truncate_39 : decode prog_1_method_15_code 39 = .ok (.iload_n 1, 1) := by decide +kernel
theorem d_FF_truncate_40 : decode prog_1_method_15_code 40 = .ok (.iload_n 2, 1) := by decide +kernel
theorem d_FF_truncate_41 : decode prog_1_method_15_code 41 = .ok (.invokevirtual 224, 3) := by decide +kernel
theorem d_FF_truncate_44 : decode prog_1_method_15_code 44 = .ok (.return_, 1) := by decide +kernel
set_option maxHeartbeats 4000000 in
set_option maxRecDepth 100000 in
theorem m_FF_truncate {l : Launch} {D : va_G} {ad : Nat → Nat} {ca : Nat → ClassId} {FU : Nat} {x1 : Int32} {x2 : Int32} {g : St} {q : Nat × Int32 × St} (h : FF_truncate FU x1 x2 g = some q) : CX l ⟨"FlashFiles", "truncate", "(II)V"⟩ prog_1_method_15_code 3 10 none D (tyF ca) (wF ad ca g) [.ref (ad 0), .int x1, .int x2] q.1 none (wF ad ca q.2.2) := by
  refine CX.fx (by decide) (Nat.le_of_ble_eq_true rfl) ?_
  intro p e s m below meth c A ls X hE hZ htr hP hD hl
  have hl : lv_has ls 3 [(0, .ref (ad 0)), (1, .int x1), (2, .int x2)] := hl
  have hS : va_S A s.heap s.heap [] := va_S.rf
  have hx := X.1
  have hb := X.2.1
  unfold FF_truncate at h
  refine lv_aload_n hx hb d_FF_truncate_0 rfl (lv_at hl 0 rfl) ?_
  obtain ⟨p1, e1, h⟩ := bd_some h
  refine xx_V (As := []) X (m_FF_requirePower e1) hZ htr hP hD hS kv_FF_204 ⟨⟨Nat.le_of_ble_eq_true rfl, Nat.le_of_ble_eq_true rfl⟩, Nat.le_of_ble_eq_true rfl, Nat.le_of_ble_eq_true rfl⟩ 0 rfl rfl rfl hl.1 rfl (Nat.le_of_ble_eq_true rfl) d_FF_truncate_1 (fun hk H locs hP hD hS => ?_) (fun hk H locs q9 ce hP hD hS hce hcv hcl => ?_)
  · have h := if_t hk h
    refine W.eq (g2 := F0 m 4 ls []) rfl ?_
    refine lv_aload_n hx hb d_FF_truncate_4 rfl (lv_at hl 0 rfl) ?_
    refine lv_iload_n hx hb d_FF_truncate_5 rfl (lv_at hl 1 rfl) ?_
    obtain ⟨p2, e1, h⟩ := bd_some h
    refine xx_V (As := [.int x1]) X (m_FF_requireFile e1) hZ htr hP hD hS kv_FF_148 ⟨⟨Nat.le_of_ble_eq_true rfl, Nat.le_of_ble_eq_true rfl⟩, Nat.le_of_ble_eq_true rfl, Nat.le_of_ble_eq_true rfl⟩ 0 rfl rfl rfl hl.1 rfl (Nat.le_of_ble_eq_true rfl) d_FF_truncate_6 (fun hk H locs hP hD hS => ?_) (fun hk H locs q9 ce hP hD hS hce hcv hcl => ?_)
    · have h := if_t hk h
      refine W.eq (g2 := F0 m 9 ls []) rfl ?_
      refine lv_iload_n hx hb d_FF_truncate_9 rfl (lv_at hl 2 rfl) ?_
      refine lv_if_lt (tgt := 19) hx hb d_FF_truncate_10 (by decide) (fun hc => ?_) (fun hc => ?_)
      · have h := if_t hc h
        cases h
        exact xx_throwS (k := 1) (ik := 98) (is := 222) (ic := 102) (text := "no such size") (names := exN) X hE hZ htr (by decide) hP hD hS (by decide) (by decide) at_1_102 cl_98 in_E1 (List.mem_of_getElem? (i := 22) rfl) hl.1 d_FF_truncate_19 d_FF_truncate_22 d_FF_truncate_23 d_FF_truncate_25 d_FF_truncate_28 ⟨⟨by decide, Nat.le_of_ble_eq_true rfl⟩, by decide, by decide⟩
      · have h := if_f hc h
        refine lv_iload_n hx hb d_FF_truncate_13 rfl (lv_at hl 2 rfl) ?_
        refine lv_ldc (v := 100000) hx hb X.2.2.2.2.2.1 (X.2.2.2.2.2.2.1.use q6_1) d_FF_truncate_14 ?_
        refine lv_icmp_le (tgt := 29) hx hb d_FF_truncate_16 (by decide) (fun hc => ?_) (fun hc => ?_)
        · have h := if_t hc h
          refine lv_aload_n hx hb d_FF_truncate_29 rfl (lv_at hl 0 rfl) ?_
          refine lv_bipush (v := 6) hx hb d_FF_truncate_30 (by decide) ?_
          obtain ⟨p3, e1, h⟩ := bd_some h
          refine xx_V (As := [.int (6 : Int32)]) X (m_FF_reserve e1) hZ htr hP hD hS kv_FF_141 ⟨⟨Nat.le_of_ble_eq_true rfl, Nat.le_of_ble_eq_true rfl⟩, Nat.le_of_ble_eq_true rfl, Nat.le_of_ble_eq_true rfl⟩ 0 rfl rfl rfl hl.1 rfl (Nat.le_of_ble_eq_true rfl) d_FF_truncate_32 (fun hk H locs hP hD hS => ?_) (fun hk H locs q9 ce hP hD hS hce hcv hcl => ?_)
          · have h := if_t hk h
            refine W.eq (g2 := F0 m 35 ls []) rfl ?_
            refine lv_aload_n hx hb d_FF_truncate_35 rfl (lv_at hl 0 rfl) ?_
            refine gF_ff_files X hP d_FF_truncate_36 ?_
            refine lv_iload_n hx hb d_FF_truncate_39 rfl (lv_at hl 1 rfl) ?_
            refine lv_iload_n hx hb d_FF_truncate_40 rfl (lv_at hl 2 rfl) ?_
            obtain ⟨p4, e1, h⟩ := bd_some h
            refine fx_v X (fx_runV (As := [.int x1, .int x2]) X (m_Fil_resize e1 _) hP hD kv_FF_224 ⟨Nat.le_of_ble_eq_true rfl, Nat.le_of_ble_eq_true rfl⟩ 6 rfl rfl rfl hl.1 rfl (Nat.le_of_ble_eq_true rfl) d_FF_truncate_41) hD hS (fun H locs hP hD hS => ?_)
            cases h
            exact xx_vret X hP hD hS d_FF_truncate_44
          · have h := if_f hk h
            cases h
            exact xx_leave X hE hk hP hD hS hce hcv hcl (Nat.le_refl _) (Nat.le_refl _)
        · have h := if_f hc h
          cases h
          exact xx_throwS (k := 1) (ik := 98) (is := 222) (ic := 102) (text := "no such size") (names := exN) X hE hZ htr (by decide) hP hD hS (by decide) (by decide) at_1_102 cl_98 in_E1 (List.mem_of_getElem? (i := 22) rfl) hl.1 d_FF_truncate_19 d_FF_truncate_22 d_FF_truncate_23 d_FF_truncate_25 d_FF_truncate_28 ⟨⟨by decide, Nat.le_of_ble_eq_true rfl⟩, by decide, by decide⟩
    · have h := if_f hk h
      cases h
      exact xx_leave X hE hk hP hD hS hce hcv hcl (Nat.le_refl _) (Nat.le_refl _)
  · have h := if_f hk h
    cases h
    exact xx_leave X hE hk hP hD hS hce hcv hcl (Nat.le_refl _) (Nat.le_refl _)
theorem d_FF_fsync_0 : decode prog_1_method_16_code 0 = .ok (.aload_n 0, 1) := by decide +kernel
theorem d_FF_fsync_1 : decode prog_1_method_16_code 1 = .ok (.invokevirtual 204, 3) := by decide +kernel
theorem d_FF_fsync_4 : decode prog_1_method_16_code 4 = .ok (.aload_n 0, 1) := by decide +kernel
theorem d_FF_fsync_5 : decode prog_1_method_16_code 5 = .ok (.iload_n 1, 1) := by decide +kernel
theorem d_FF_fsync_6 : decode prog_1_method_16_code 6 = .ok (.invokevirtual 148, 3) := by decide +kernel
theorem d_FF_fsync_9 : decode prog_1_method_16_code 9 = .ok (.aload_n 0, 1) := by decide +kernel
theorem d_FF_fsync_10 : decode prog_1_method_16_code 10 = .ok (.iconst 1, 1) := by decide +kernel
theorem d_FF_fsync_11 : decode prog_1_method_16_code 11 = .ok (.invokevirtual 141, 3) := by decide +kernel
theorem d_FF_fsync_14 : decode prog_1_method_16_code 14 = .ok (.aload_n 0, 1) := by decide +kernel
theorem d_FF_fsync_15 : decode prog_1_method_16_code 15 = .ok (.getfield 38, 3) := by decide +kernel
theorem d_FF_fsync_18 : decode prog_1_method_16_code 18 = .ok (.iload_n 1, 1) := by decide +kernel
theorem d_FF_fsync_19 : decode prog_1_method_16_code 19 = .ok (.invokevirtual 227, 3) := by decide +kernel
theorem d_FF_fsync_22 : decode prog_1_method_16_code 22 = .ok (.ifCond .eq 17, 3) := by decide +kernel
theorem d_FF_fsync_25 : decode prog_1_method_16_code 25 = .ok (.aload_n 0, 1) := by decide +kernel
theorem d_FF_fsync_26 : decode prog_1_method_16_code 26 = .ok (.iconst 1, 1) := by decide +kernel
theorem d_FF_fsync_27 : decode prog_1_method_16_code 27 = .ok (.invokevirtual 230, 3) := by decide +kernel
theorem d_FF_fsync_30 : decode prog_1_method_16_code 30 = .ok (.aload_n 0, 1) := by decide +kernel
theorem d_FF_fsync_31 : decode prog_1_method_16_code 31 = .ok (.getfield 75, 3) := by decide +kernel
theorem d_FF_fsync_34 : decode prog_1_method_16_code 34 = .ok (.invokevirtual 112, 3) := by decide +kernel
theorem d_FF_fsync_37 : decode prog_1_method_16_code 37 = .ok (.iconst 1, 1) := by decide +kernel
theorem d_FF_fsync_38 : decode prog_1_method_16_code 38 = .ok (.ireturn, 1) := by decide +kernel
theorem d_FF_fsync_39 : decode prog_1_method_16_code 39 = .ok (.aload_n 0, 1) := by decide +kernel
theorem d_FF_fsync_40 : decode prog_1_method_16_code 40 = .ok (.iconst 0, 1) := by decide +kernel
theorem d_FF_fsync_41 : decode prog_1_method_16_code 41 = .ok (.invokevirtual 230, 3) := by decide +kernel
theorem d_FF_fsync_44 : decode prog_1_method_16_code 44 = .ok (.aload_n 0, 1) := by decide +kernel
theorem d_FF_fsync_45 : decode prog_1_method_16_code 45 = .ok (.getfield 56, 3) := by decide +kernel
theorem d_FF_fsync_48 : decode prog_1_method_16_code 48 = .ok (.iload_n 1, 1) := by decide +kernel
theorem d_FF_fsync_49 : decode prog_1_method_16_code 49 = .ok (.invokevirtual 234, 3) := by decide +kernel
theorem d_FF_fsync_52 : decode prog_1_method_16_code 52 = .ok (.iconst 0, 1) := by decide +kernel
theorem d_FF_fsync_53 : decode prog_1_method_16_code 53 = .ok (.ireturn, 1) := by decide +kernel
set_option maxHeartbeats 4000000 in
set_option maxRecDepth 100000 in
theorem m_FF_fsync {l : Launch} {D : va_G} {ad : Nat → Nat} {ca : Nat → ClassId} {FU : Nat} {x1 : Int32} {g : St} {q : Nat × Int32 × St} (h : FF_fsync FU x1 g = some q) : CX l ⟨"FlashFiles", "fsync", "(I)I"⟩ prog_1_method_16_code 2 10 (some .int) D (tyF ca) (wF ad ca g) [.ref (ad 0), .int x1] q.1 (some (.int q.2.1)) (wF ad ca q.2.2) := by
  refine CX.fx (by decide) (Nat.le_of_ble_eq_true rfl) ?_
  intro p e s m below meth c A ls X hE hZ htr hP hD hl
  have hl : lv_has ls 2 [(0, .ref (ad 0)), (1, .int x1)] := hl
  have hS : va_S A s.heap s.heap [] := va_S.rf
  have hx := X.1
  have hb := X.2.1
  unfold FF_fsync at h
  refine lv_aload_n hx hb d_FF_fsync_0 rfl (lv_at hl 0 rfl) ?_
  obtain ⟨p1, e1, h⟩ := bd_some h
  refine xx_V (As := []) X (m_FF_requirePower e1) hZ htr hP hD hS kv_FF_204 ⟨⟨Nat.le_of_ble_eq_true rfl, Nat.le_of_ble_eq_true rfl⟩, Nat.le_of_ble_eq_true rfl, Nat.le_of_ble_eq_true rfl⟩ 0 rfl rfl rfl hl.1 rfl (Nat.le_of_ble_eq_true rfl) d_FF_fsync_1 (fun hk H locs hP hD hS => ?_) (fun hk H locs q9 ce hP hD hS hce hcv hcl => ?_)
  · have h := if_t hk h
    refine W.eq (g2 := F0 m 4 ls []) rfl ?_
    refine lv_aload_n hx hb d_FF_fsync_4 rfl (lv_at hl 0 rfl) ?_
    refine lv_iload_n hx hb d_FF_fsync_5 rfl (lv_at hl 1 rfl) ?_
    obtain ⟨p2, e1, h⟩ := bd_some h
    refine xx_V (As := [.int x1]) X (m_FF_requireFile e1) hZ htr hP hD hS kv_FF_148 ⟨⟨Nat.le_of_ble_eq_true rfl, Nat.le_of_ble_eq_true rfl⟩, Nat.le_of_ble_eq_true rfl, Nat.le_of_ble_eq_true rfl⟩ 0 rfl rfl rfl hl.1 rfl (Nat.le_of_ble_eq_true rfl) d_FF_fsync_6 (fun hk H locs hP hD hS => ?_) (fun hk H locs q9 ce hP hD hS hce hcv hcl => ?_)
    · have h := if_t hk h
      refine W.eq (g2 := F0 m 9 ls []) rfl ?_
      refine lv_aload_n hx hb d_FF_fsync_9 rfl (lv_at hl 0 rfl) ?_
      refine lv_iconst (v := 1) hx hb d_FF_fsync_10 (by decide) ?_
      obtain ⟨p3, e1, h⟩ := bd_some h
      refine xx_V (As := [.int (1 : Int32)]) X (m_FF_reserve e1) hZ htr hP hD hS kv_FF_141 ⟨⟨Nat.le_of_ble_eq_true rfl, Nat.le_of_ble_eq_true rfl⟩, Nat.le_of_ble_eq_true rfl, Nat.le_of_ble_eq_true rfl⟩ 0 rfl rfl rfl hl.1 rfl (Nat.le_of_ble_eq_true rfl) d_FF_fsync_11 (fun hk H locs hP hD hS => ?_) (fun hk H locs q9 ce hP hD hS hce hcv hcl => ?_)
      · have h := if_t hk h
        refine W.eq (g2 := F0 m 14 ls []) rfl ?_
        refine lv_aload_n hx hb d_FF_fsync_14 rfl (lv_at hl 0 rfl) ?_
        refine gF_ff_table X hP d_FF_fsync_15 ?_
        refine lv_iload_n hx hb d_FF_fsync_18 rfl (lv_at hl 1 rfl) ?_
        obtain ⟨v4, e1, h⟩ := bd_some h
        refine fx_i X (fx_runV (As := [.int x1]) X (m_Tab_isStirred e1 _) hP hD kv_FF_227 ⟨Nat.le_of_ble_eq_true rfl, Nat.le_of_ble_eq_true rfl⟩ 4 rfl rfl rfl hl.1 rfl (Nat.le_of_ble_eq_true rfl) d_FF_fsync_19) hD hS (fun H locs hP hD hS => ?_)
        refine lv_if_eq (tgt := 39) hx hb d_FF_fsync_22 (by decide) (fun hc => ?_) (fun hc => ?_)
        · have h := if_t hc h
          refine lv_aload_n hx hb d_FF_fsync_39 rfl (lv_at hl 0 rfl) ?_
          refine lv_iconst (v := 0) hx hb d_FF_fsync_40 (by decide) ?_
          obtain ⟨p5, e1, h⟩ := bd_some h
          refine xx_V (As := [.int (0 : Int32)]) X (m_FF_failAtCut e1) hZ htr hP hD hS kv_FF_230 ⟨⟨Nat.le_of_ble_eq_true rfl, Nat.le_of_ble_eq_true rfl⟩, Nat.le_of_ble_eq_true rfl, Nat.le_of_ble_eq_true rfl⟩ 0 rfl rfl rfl hl.1 rfl (Nat.le_of_ble_eq_true rfl) d_FF_fsync_41 (fun hk H locs hP hD hS => ?_) (fun hk H locs q9 ce hP hD hS hce hcv hcl => ?_)
          · have h := if_t hk h
            refine W.eq (g2 := F0 m 44 ls []) rfl ?_
            refine lv_aload_n hx hb d_FF_fsync_44 rfl (lv_at hl 0 rfl) ?_
            refine gF_ff_files X hP d_FF_fsync_45 ?_
            refine lv_iload_n hx hb d_FF_fsync_48 rfl (lv_at hl 1 rfl) ?_
            obtain ⟨p6, e1, h⟩ := bd_some h
            refine fx_v X (fx_runV (As := [.int x1]) X (m_Fil_commitAlone e1 _) hP hD kv_FF_234 ⟨Nat.le_of_ble_eq_true rfl, Nat.le_of_ble_eq_true rfl⟩ 6 rfl rfl rfl hl.1 rfl (Nat.le_of_ble_eq_true rfl) d_FF_fsync_49) hD hS (fun H locs hP hD hS => ?_)
            refine lv_iconst (v := 0) hx hb d_FF_fsync_52 (by decide) ?_
            cases h
            exact xx_iret X hP hD hS d_FF_fsync_53
          · have h := if_f hk h
            cases h
            exact xx_leave X hE hk hP hD hS hce hcv hcl (Nat.le_refl _) (Nat.le_refl _)
        · have h := if_f hc h
          refine lv_aload_n hx hb d_FF_fsync_25 rfl (lv_at hl 0 rfl) ?_
          refine lv_iconst (v := 1) hx hb d_FF_fsync_26 (by decide) ?_
          obtain ⟨p7, e1, h⟩ := bd_some h
          refine xx_V (As := [.int (1 : Int32)]) X (m_FF_failAtCut e1) hZ htr hP hD hS kv_FF_230 ⟨⟨Nat.le_of_ble_eq_true rfl, Nat.le_of_ble_eq_true rfl⟩, Nat.le_of_ble_eq_true rfl, Nat.le_of_ble_eq_true rfl⟩ 0 rfl rfl rfl hl.1 rfl (Nat.le_of_ble_eq_true rfl) d_FF_fsync_27 (fun hk H locs hP hD hS => ?_) (fun hk H locs q9 ce hP hD hS hce hcv hcl => ?_)
          · have h := if_t hk h
            refine W.eq (g2 := F0 m 30 ls []) rfl ?_
            refine lv_aload_n hx hb d_FF_fsync_30 rfl (lv_at hl 0 rfl) ?_
            refine gF_ff_checkpoints X hP d_FF_fsync_31 ?_
            obtain ⟨p8, e1, h⟩ := bd_some h
            refine fx_v X (fx_runV (As := []) X (m_Chk_take e1 _) hP hD kv_FF_112 ⟨Nat.le_of_ble_eq_true rfl, Nat.le_of_ble_eq_true rfl⟩ 9 rfl rfl rfl hl.1 rfl (Nat.le_of_ble_eq_true rfl) d_FF_fsync_34) hD hS (fun H locs hP hD hS => ?_)
            refine lv_iconst (v := 1) hx hb d_FF_fsync_37 (by decide) ?_
            cases h
            exact xx_iret X hP hD hS d_FF_fsync_38
          · have h := if_f hk h
            cases h
            exact xx_leave X hE hk hP hD hS hce hcv hcl (Nat.le_refl _) (Nat.le_refl _)
      · have h := if_f hk h
        cases h
        exact xx_leave X hE hk hP hD hS hce hcv hcl (Nat.le_refl _) (Nat.le_refl _)
    · have h := if_f hk h
      cases h
      exact xx_leave X hE hk hP hD hS hce hcv hcl (Nat.le_refl _) (Nat.le_refl _)
  · have h := if_f hk h
    cases h
    exact xx_leave X hE hk hP hD hS hce hcv hcl (Nat.le_refl _) (Nat.le_refl _)
theorem d_FF_sync_0 : decode prog_1_method_17_code 0 = .ok (.aload_n 0, 1) := by decide +kernel
theorem d_FF_sync_1 : decode prog_1_method_17_code 1 = .ok (.invokevirtual 204, 3) := by decide +kernel
theorem d_FF_sync_4 : decode prog_1_method_17_code 4 = .ok (.aload_n 0, 1) := by decide +kernel
theorem d_FF_sync_5 : decode prog_1_method_17_code 5 = .ok (.iconst 1, 1) := by decide +kernel
theorem d_FF_sync_6 : decode prog_1_method_17_code 6 = .ok (.invokevirtual 230, 3) := by decide +kernel
theorem d_FF_sync_9 : decode prog_1_method_17_code 9 = .ok (.aload_n 0, 1) := by decide +kernel
theorem d_FF_sync_10 : decode prog_1_method_17_code 10 = .ok (.getfield 75, 3) := by decide +kernel
theorem d_FF_sync_13 : decode prog_1_method_17_code 13 = .ok (.invokevirtual 112, 3) := by decide +kernel
theorem d_FF_sync_16 : decode prog_1_method_17_code 16 = .ok (.aload_n 0, 1) := by decide +kernel
theorem d_FF_sync_17 : decode prog_1_method_17_code 17 = .ok (.getfield 75, 3) := by decide +kernel
theorem d_FF_sync_20 : decode prog_1_method_17_code 20 = .ok (.invokevirtual 237, 3) := by decide +kernel
theorem d_FF_sync_23 : decode prog_1_method_17_code 23 = .ok (.ireturn, 1) := by decide +kernel
set_option maxHeartbeats 4000000 in
set_option maxRecDepth 100000 in
theorem m_FF_sync {l : Launch} {D : va_G} {ad : Nat → Nat} {ca : Nat → ClassId} {FU : Nat} {g : St} {q : Nat × Int32 × St} (h : FF_sync FU  g = some q) : CX l ⟨"FlashFiles", "sync", "()I"⟩ prog_1_method_17_code 1 9 (some .int) D (tyF ca) (wF ad ca g) [.ref (ad 0)] q.1 (some (.int q.2.1)) (wF ad ca q.2.2) := by
  refine CX.fx (by decide) (Nat.le_of_ble_eq_true rfl) ?_
  intro p e s m below meth c A ls X hE hZ htr hP hD hl
  have hl : lv_has ls 1 [(0, .ref (ad 0))] := hl
  have hS : va_S A s.heap s.heap [] := va_S.rf
  have hx := X.1
  have hb := X.2.1
  unfold FF_sync at h
  refine lv_aload_n hx hb d_FF_sync_0 rfl (lv_at hl 0 rfl) ?_
  obtain ⟨p1, e1, h⟩ := bd_some h
  refine xx_V (As := []) X (m_FF_requirePower e1) hZ htr hP hD hS kv_FF_204 ⟨⟨Nat.le_of_ble_eq_true rfl, Nat.le_of_ble_eq_true rfl⟩, Nat.le_of_ble_eq_true rfl, Nat.le_of_ble_eq_true rfl⟩ 0 rfl rfl rfl hl.1 rfl (Nat.le_of_ble_eq_true rfl) d_FF_sync_1 (fun hk H locs hP hD hS => ?_) (fun hk H locs q9 ce hP hD hS hce hcv hcl => ?_)
  · have h := if_t hk h
    refine W.eq (g2 := F0 m 4 ls []) rfl ?_
    refine lv_aload_n hx hb d_FF_sync_4 rfl (lv_at hl 0 rfl) ?_
    refine lv_iconst (v := 1) hx hb d_FF_sync_5 (by decide) ?_
    obtain ⟨p2, e1, h⟩ := bd_some h
    refine xx_V (As := [.int (1 : Int32)]) X (m_FF_failAtCut e1) hZ htr hP hD hS kv_FF_230 ⟨⟨Nat.le_of_ble_eq_true rfl, Nat.le_of_ble_eq_true rfl⟩, Nat.le_of_ble_eq_true rfl, Nat.le_of_ble_eq_true rfl⟩ 0 rfl rfl rfl hl.1 rfl (Nat.le_of_ble_eq_true rfl) d_FF_sync_6 (fun hk H locs hP hD hS => ?_) (fun hk H locs q9 ce hP hD hS hce hcv hcl => ?_)
    · have h := if_t hk h
      refine W.eq (g2 := F0 m 9 ls []) rfl ?_
      refine lv_aload_n hx hb d_FF_sync_9 rfl (lv_at hl 0 rfl) ?_
      refine gF_ff_checkpoints X hP d_FF_sync_10 ?_
      obtain ⟨p3, e1, h⟩ := bd_some h
      refine fx_v X (fx_runV (As := []) X (m_Chk_take e1 _) hP hD kv_FF_112 ⟨Nat.le_of_ble_eq_true rfl, Nat.le_of_ble_eq_true rfl⟩ 9 rfl rfl rfl hl.1 rfl (Nat.le_of_ble_eq_true rfl) d_FF_sync_13) hD hS (fun H locs hP hD hS => ?_)
      refine lv_aload_n hx hb d_FF_sync_16 rfl (lv_at hl 0 rfl) ?_
      refine gF_ff_checkpoints X hP d_FF_sync_17 ?_
      obtain ⟨v4, e1, h⟩ := bd_some h
      refine fx_i X (fx_runV (As := []) X (m_Chk_taken e1 _) hP hD kv_FF_237 ⟨Nat.le_of_ble_eq_true rfl, Nat.le_of_ble_eq_true rfl⟩ 9 rfl rfl rfl hl.1 rfl (Nat.le_of_ble_eq_true rfl) d_FF_sync_20) hD hS (fun H locs hP hD hS => ?_)
      cases h
      exact xx_iret X hP hD hS d_FF_sync_23
    · have h := if_f hk h
      cases h
      exact xx_leave X hE hk hP hD hS hce hcv hcl (Nat.le_refl _) (Nat.le_refl _)
  · have h := if_f hk h
    cases h
    exact xx_leave X hE hk hP hD hS hce hcv hcl (Nat.le_refl _) (Nat.le_refl _)
theorem d_FF_name_0 : decode prog_1_method_18_code 0 = .ok (.aload_n 0, 1) := by decide +kernel
theorem d_FF_name_1 : decode prog_1_method_18_code 1 = .ok (.invokevirtual 204, 3) := by decide +kernel
theorem d_FF_name_4 : decode prog_1_method_18_code 4 = .ok (.aload_n 0, 1) := by decide +kernel
theorem d_FF_name_5 : decode prog_1_method_18_code 5 = .ok (.getfield 63, 3) := by decide +kernel
theorem d_FF_name_8 : decode prog_1_method_18_code 8 = .ok (.iload_n 1, 1) := by decide +kernel
theorem d_FF_name_9 : decode prog_1_method_18_code 9 = .ok (.invokevirtual 240, 3) := by decide +kernel
theorem d_FF_name_12 : decode prog_1_method_18_code 12 = .ok (.iconst 2, 1) := by decide +kernel
theorem d_FF_name_13 : decode prog_1_method_18_code 13 = .ok (.if_icmp .ne 7, 3) := by decide +kernel
theorem d_FF_name_16 : decode prog_1_method_18_code 16 = .ok (.iload_n 2, 1) := by decide +kernel
theorem d_FF_name_17 : decode prog_1_method_18_code 17 = .ok (.ifCond .ge 13, 3) := by decide +kernel
theorem d_FF_name_20 : decode prog_1_method_18_code 20 = .ok (.new 98, 3) := by decide +kernel
theorem d_FF_name_23 : decode prog_1_method_18_code 23 = .ok (.dup, 1) := by decide +kernel
theorem d_FF_name_24 : decode prog_1_method_18_code 24 = .ok (.ldc 243, 2) := by decide +kernel
theorem d_FF_name_26 : decode prog_1_method_18_code 26 = .ok (.invokespecial 102, 3) := by decide +kernel
theorem d_FF_name_29 : decode prog_1_method_18_code 29 = .ok (.athrow, 1) := by decide +kernel
theorem d_FF_name_30 : decode prog_1_method_18_code 30 = .ok (.aload_n 0, 1) := by decide +kernel
theorem d_FF_name_31 : decode prog_1_method_18_code 31 = .ok (.getfield 63, 3) := by decide +kernel
theorem d_FF_name_34 : decode prog_1_method_18_code 34 = .ok (.iload_n 1, 1) := by decide +kernel
theorem d_FF_name_35 : decode prog_1_method_18_code 35 = .ok (.iload_n 2, 1) := by decide +kernel
theorem d_FF_name_36 : decode prog_1_method_18_code 36 = .ok (.aload_n 0, 1) := by decide +kernel
theorem d_FF_name_37 : decode prog_1_method_18_code 37 = .ok (.getfield 18, 3) := by decide +kernel
theorem d_FF_name_40 : decode prog_1_method_18_code 40 = .ok (.invokevirtual 245, 3) := by decide +kernel
theorem d_FF_name_43 : decode prog_1_method_18_code 43 = .ok (.ireturn, 1) := by decide +kernel
set_option maxHeartbeats 4000000 in
set_option maxRecDepth 100000 in
theorem m_FF_name {l : Launch} {D : va_G} {ad : Nat → Nat} {ca : Nat → ClassId} {FU : Nat} {x1 : Int32} {x2 : Int32} {g : St} {q : Nat × Int32 × St} (h : FF_name FU x1 x2 g = some q) : CX l ⟨"FlashFiles", "name", "(II)I"⟩ prog_1_method_18_code 3 7 (some .int) D (tyF ca) (wF ad ca g) [.ref (ad 0), .int x1, .int x2] q.1 (some (.int q.2.1)) (wF ad ca q.2.2) := by
  refine CX.fx (by decide) (Nat.le_of_ble_eq_true rfl) ?_
  intro p e s m below meth c A ls X hE hZ htr hP hD hl
  have hl : lv_has ls 3 [(0, .ref (ad 0)), (1, .int x1), (2, .int x2)] := hl
  have hS : va_S A s.heap s.heap [] := va_S.rf
  have hx := X.1
  have hb := X.2.1
  unfold FF_name at h
  refine lv_aload_n hx hb d_FF_name_0 rfl (lv_at hl 0 rfl) ?_
  obtain ⟨p1, e1, h⟩ := bd_some h
  refine xx_V (As := []) X (m_FF_requirePower e1) hZ htr hP hD hS kv_FF_204 ⟨⟨Nat.le_of_ble_eq_true rfl, Nat.le_of_ble_eq_true rfl⟩, Nat.le_of_ble_eq_true rfl, Nat.le_of_ble_eq_true rfl⟩ 0 rfl rfl rfl hl.1 rfl (Nat.le_of_ble_eq_true rfl) d_FF_name_1 (fun hk H locs hP hD hS => ?_) (fun hk H locs q9 ce hP hD hS hce hcv hcl => ?_)
  · have h := if_t hk h
    refine W.eq (g2 := F0 m 4 ls []) rfl ?_
    refine lv_aload_n hx hb d_FF_name_4 rfl (lv_at hl 0 rfl) ?_
    refine gF_ff_tree X hP d_FF_name_5 ?_
    refine lv_iload_n hx hb d_FF_name_8 rfl (lv_at hl 1 rfl) ?_
    obtain ⟨v2, e1, h⟩ := bd_some h
    refine fx_i X (fx_runV (As := [.int x1]) X (m_Tre_kindOf e1 _) hP hD kv_FF_240 ⟨Nat.le_of_ble_eq_true rfl, Nat.le_of_ble_eq_true rfl⟩ 7 rfl rfl rfl hl.1 rfl (Nat.le_of_ble_eq_true rfl) d_FF_name_9) hD hS (fun H locs hP hD hS => ?_)
    refine lv_iconst (v := 2) hx hb d_FF_name_12 (by decide) ?_
    refine lv_icmp_ne (tgt := 20) hx hb d_FF_name_13 (by decide) (fun hc => ?_) (fun hc => ?_)
    · have h := if_f hc h
      cases h
      exact xx_throwS (k := 1) (ik := 98) (is := 243) (ic := 102) (text := "no such directory or number") (names := exN) X hE hZ htr (by decide) hP hD hS (by decide) (by decide) at_1_102 cl_98 in_E1 (List.mem_of_getElem? (i := 23) rfl) hl.1 d_FF_name_20 d_FF_name_23 d_FF_name_24 d_FF_name_26 d_FF_name_29 ⟨⟨by decide, Nat.le_of_ble_eq_true rfl⟩, by decide, by decide⟩
    · have h := if_t hc h
      refine lv_iload_n hx hb d_FF_name_16 rfl (lv_at hl 2 rfl) ?_
      refine lv_if_ge (tgt := 30) hx hb d_FF_name_17 (by decide) (fun hc => ?_) (fun hc => ?_)
      · have h := if_t hc h
        refine lv_aload_n hx hb d_FF_name_30 rfl (lv_at hl 0 rfl) ?_
        refine gF_ff_tree X hP d_FF_name_31 ?_
        refine lv_iload_n hx hb d_FF_name_34 rfl (lv_at hl 1 rfl) ?_
        refine lv_iload_n hx hb d_FF_name_35 rfl (lv_at hl 2 rfl) ?_
        refine lv_aload_n hx hb d_FF_name_36 rfl (lv_at hl 0 rfl) ?_
        refine gF_ff_told X hP d_FF_name_37 ?_
        obtain ⟨p3, e1, h⟩ := bd_some h
        refine fx_i X (fx_runV (As := [.int x1, .int x2, .ref (ad 2)]) X (m_Tre_tellName_1 e1 _) hP hD kv_FF_245 ⟨Nat.le_of_ble_eq_true rfl, Nat.le_of_ble_eq_true rfl⟩ 7 rfl rfl rfl hl.1 rfl (Nat.le_of_ble_eq_true rfl) d_FF_name_40) hD hS (fun H locs hP hD hS => ?_)
        cases h
        exact xx_iret X hP hD hS d_FF_name_43
      · have h := if_f hc h
        cases h
        exact xx_throwS (k := 1) (ik := 98) (is := 243) (ic := 102) (text := "no such directory or number") (names := exN) X hE hZ htr (by decide) hP hD hS (by decide) (by decide) at_1_102 cl_98 in_E1 (List.mem_of_getElem? (i := 23) rfl) hl.1 d_FF_name_20 d_FF_name_23 d_FF_name_24 d_FF_name_26 d_FF_name_29 ⟨⟨by decide, Nat.le_of_ble_eq_true rfl⟩, by decide, by decide⟩
  · have h := if_f hk h
    cases h
    exact xx_leave X hE hk hP hD hS hce hcv hcl (Nat.le_refl _) (Nat.le_refl _)
