theorem d_FF_look_0 : decode prog_1_method_19_code 0 = .ok (.aload_n 0, 1) := by decide +kernel
theorem d_FF_look_1 : decode prog_1_method_19_code 1 = .ok (.invokevirtual 204, 3) := by decide +kernel
theorem d_FF_look_4 : decode prog_1_method_19_code 4 = .ok (.iload_n 2, 1) := by decide +kernel
theorem d_FF_look_5 : decode prog_1_method_19_code 5 = .ok (.ifCond .lt 8, 3) := by decide +kernel
theorem d_FF_look_8 : decode prog_1_method_19_code 8 = .ok (.iload_n 2, 1) := by decide +kernel
theorem d_FF_look_9 : decode prog_1_method_19_code 9 = .ok (.iconst 4, 1) := by decide +kernel
theorem d_FF_look_10 : decode prog_1_method_19_code 10 = .ok (.if_icmp .le 13, 3) := by decide +kernel
theorem d_FF_look_13 : decode prog_1_method_19_code 13 = .ok (.new 98, 3) := by decide +kernel
theorem d_FF_look_16 : decode prog_1_method_19_code 16 = .ok (.dup, 1) := by decide +kernel
theorem d_FF_look_17 : decode prog_1_method_19_code 17 = .ok (.ldc 249, 2) := by decide +kernel
theorem d_FF_look_19 : decode prog_1_method_19_code 19 = .ok (.invokespecial 102, 3) := by decide +kernel
theorem d_FF_look_22 : decode prog_1_method_19_code 22 = .ok (.athrow, 1) := by decide +kernel
theorem d_FF_look_23 : decode prog_1_method_19_code 23 = .ok (.aload_n 0, 1) := by decide +kernel
theorem d_FF_look_24 : decode prog_1_method_19_code 24 = .ok (.getfield 63, 3) := by decide +kernel
theorem d_FF_look_27 : decode prog_1_method_19_code 27 = .ok (.iload_n 1, 1) := by decide +kernel
theorem d_FF_look_28 : decode prog_1_method_19_code 28 = .ok (.invokevirtual 240, 3) := by decide +kernel
theorem d_FF_look_31 : decode prog_1_method_19_code 31 = .ok (.istore_n 3, 1) := by decide +kernel
theorem d_FF_look_32 : decode prog_1_method_19_code 32 = .ok (.iload_n 2, 1) := by decide +kernel
theorem d_FF_look_33 : decode prog_1_method_19_code 33 = .ok (.tableswitch 71 0 3 #[31, 33, 43, 62], 31) := by decide +kernel
theorem d_FF_look_64 : decode prog_1_method_19_code 64 = .ok (.iload_n 3, 1) := by decide +kernel
theorem d_FF_look_65 : decode prog_1_method_19_code 65 = .ok (.ireturn, 1) := by decide +kernel
theorem d_FF_look_66 : decode prog_1_method_19_code 66 = .ok (.aload_n 0, 1) := by decide +kernel
theorem d_FF_look_67 : decode prog_1_method_19_code 67 = .ok (.getfield 63, 3) := by decide +kernel
theorem d_FF_look_70 : decode prog_1_method_19_code 70 = .ok (.iload_n 1, 1) := by decide +kernel
theorem d_FF_look_71 : decode prog_1_method_19_code 71 = .ok (.iconst 1, 1) := by decide +kernel
theorem d_FF_look_72 : decode prog_1_method_19_code 72 = .ok (.invokevirtual 175, 3) := by decide +kernel
theorem d_FF_look_75 : decode prog_1_method_19_code 75 = .ok (.ireturn, 1) := by decide +kernel
theorem d_FF_look_76 : decode prog_1_method_19_code 76 = .ok (.iload_n 3, 1) := by decide +kernel
theorem d_FF_look_77 : decode prog_1_method_19_code 77 = .ok (.iconst 2, 1) := by decide +kernel
theorem d_FF_look_78 : decode prog_1_method_19_code 78 = .ok (.if_icmp .ne 7, 3) := by decide +kernel
theorem d_FF_look_81 : decode prog_1_method_19_code 81 = .ok (.iconst 1, 1) := by decide +kernel
theorem d_FF_look_82 : decode prog_1_method_19_code 82 = .ok (.goto 12, 3) := by decide +kernel
theorem d_FF_look_85 : decode prog_1_method_19_code 85 = .ok (.aload_n 0, 1) := by decide +kernel
theorem d_FF_look_86 : decode prog_1_method_19_code 86 = .ok (.getfield 63, 3) := by decide +kernel
theorem d_FF_look_89 : decode prog_1_method_19_code 89 = .ok (.iload_n 1, 1) := by decide +kernel
theorem d_FF_look_90 : decode prog_1_method_19_code 90 = .ok (.iconst 2, 1) := by decide +kernel
theorem d_FF_look_91 : decode prog_1_method_19_code 91 = .ok (.invokevirtual 175, 3) := by decide +kernel
theorem d_FF_look_94 : decode prog_1_method_19_code 94 = .ok (.ireturn, 1) := by decide +kernel
theorem d_FF_look_95 : decode prog_1_method_19_code 95 = .ok (.aload_n 0, 1) := by decide +kernel
theorem d_FF_look_96 : decode prog_1_method_19_code 96 = .ok (.getfield 63, 3) := by decide +kernel
theorem d_FF_look_99 : decode prog_1_method_19_code 99 = .ok (.iload_n 1, 1) := by decide +kernel
theorem d_FF_look_100 : decode prog_1_method_19_code 100 = .ok (.invokevirtual 251, 3) := by decide +kernel
theorem d_FF_look_103 : decode prog_1_method_19_code 103 = .ok (.ireturn, 1) := by decide +kernel
theorem d_FF_look_104 : decode prog_1_method_19_code 104 = .ok (.aload_n 0, 1) := by decide +kernel
theorem d_FF_look_105 : decode prog_1_method_19_code 105 = .ok (.getfield 63, 3) := by decide +kernel
theorem d_FF_look_108 : decode prog_1_method_19_code 108 = .ok (.iload_n 1, 1) := by decide +kernel
theorem d_FF_look_109 : decode prog_1_method_19_code 109 = .ok (.iconst 3, 1) := by decide +kernel
theorem d_FF_look_110 : decode prog_1_method_19_code 110 = .ok (.invokevirtual 175, 3) := by decide +kernel
theorem d_FF_look_113 : decode prog_1_method_19_code 113 = .ok (.ireturn, 1) := by decide +kernel
set_option maxHeartbeats 4000000 in
set_option maxRecDepth 100000 in
theorem m_FF_look {l : Launch} {D : va_G} {ad : Nat → Nat} {ca : Nat → ClassId} {FU : Nat} {x1 : Int32} {x2 : Int32} {g : St} {q : Nat × Int32 × St} (h : FF_look FU x1 x2 g = some q) : CX l ⟨"FlashFiles", "look", "(II)I"⟩ prog_1_method_19_code 4 7 (some .int) D (tyF ca) (wF ad ca g) [.ref (ad 0), .int x1, .int x2] q.1 (some (.int q.2.1)) (wF ad ca q.2.2) := by
  refine CX.fx (by decide) (Nat.le_of_ble_eq_true rfl) ?_
  intro p e s m below meth c A ls X hE hZ htr hP hD hl
  have hl : lv_has ls 4 [(0, .ref (ad 0)), (1, .int x1), (2, .int x2)] := hl
  have hS : va_S A s.heap s.heap [] := va_S.rf
  have hx := X.1
  have hb := X.2.1
  unfold FF_look at h
  refine lv_aload_n hx hb d_FF_look_0 rfl (lv_at hl 0 rfl) ?_
  obtain ⟨p1, e1, h⟩ := bd_some h
  refine xx_V (As := []) X (m_FF_requirePower e1) hZ htr hP hD hS kv_FF_204 ⟨⟨Nat.le_of_ble_eq_true rfl, Nat.le_of_ble_eq_true rfl⟩, Nat.le_of_ble_eq_true rfl, Nat.le_of_ble_eq_true rfl⟩ 0 rfl rfl rfl hl.1 rfl (Nat.le_of_ble_eq_true rfl) d_FF_look_1 (fun hk H locs hP hD hS => ?_) (fun hk H locs q9 ce hP hD hS hce hcv hcl => ?_)
  · have h := if_t hk h
    refine W.eq (g2 := F0 m 4 ls []) rfl ?_
    refine lv_iload_n hx hb d_FF_look_4 rfl (lv_at hl 2 rfl) ?_
    refine lv_if_lt (tgt := 13) hx hb d_FF_look_5 (by decide) (fun hc => ?_) (fun hc => ?_)
    · have h := if_t hc h
      cases h
      exact xx_throwS (k := 1) (ik := 98) (is := 249) (ic := 102) (text := "no such what") (names := exN) X hE hZ htr (by decide) hP hD hS (by decide) (by decide) at_1_102 cl_98 in_E1 (List.mem_of_getElem? (i := 24) rfl) hl.1 d_FF_look_13 d_FF_look_16 d_FF_look_17 d_FF_look_19 d_FF_look_22 ⟨⟨by decide, Nat.le_of_ble_eq_true rfl⟩, by decide, by decide⟩
    · have h := if_f hc h
      refine lv_iload_n hx hb d_FF_look_8 rfl (lv_at hl 2 rfl) ?_
      refine lv_iconst (v := 4) hx hb d_FF_look_9 (by decide) ?_
      refine lv_icmp_le (tgt := 23) hx hb d_FF_look_10 (by decide) (fun hc => ?_) (fun hc => ?_)
      · have h := if_t hc h
        refine lv_aload_n hx hb d_FF_look_23 rfl (lv_at hl 0 rfl) ?_
        refine gF_ff_tree X hP d_FF_look_24 ?_
        refine lv_iload_n hx hb d_FF_look_27 rfl (lv_at hl 1 rfl) ?_
        obtain ⟨v2, e1, h⟩ := bd_some h
        refine fx_i X (fx_runV (As := [.int x1]) X (m_Tre_kindOf e1 _) hP hD kv_FF_240 ⟨Nat.le_of_ble_eq_true rfl, Nat.le_of_ble_eq_true rfl⟩ 7 rfl rfl rfl hl.1 rfl (Nat.le_of_ble_eq_true rfl) d_FF_look_28) hD hS (fun H locs hP hD hS => ?_)
        refine lv_istore_n hx hb d_FF_look_31 rfl hl (by decide) rfl (fun ls hl => ?_)
        have hl : lv_has ls 4 [(3, .int v2), (0, .ref (ad 0)), (1, .int x1), (2, .int x2)] := hl
        refine lv_iload_n hx hb d_FF_look_32 rfl (lv_at hl 3 rfl) ?_
        by_cases hc0 : x2 = 0
        · replace h := if_t hc0 h
          refine lv_tableIn (off := 31) (tgt := 64) hx hb d_FF_look_33 (by rw [hc0]; decide +kernel) (by rw [hc0]; decide +kernel) (by rw [hc0]; decide +kernel) (by decide) ?_
          refine lv_iload_n hx hb d_FF_look_64 rfl (lv_at hl 0 rfl) ?_
          cases h
          exact xx_iret X hP hD hS d_FF_look_65
        replace h := if_f hc0 h
        by_cases hc1 : x2 = 1
        · replace h := if_t hc1 h
          refine lv_tableIn (off := 33) (tgt := 66) hx hb d_FF_look_33 (by rw [hc1]; decide +kernel) (by rw [hc1]; decide +kernel) (by rw [hc1]; decide +kernel) (by decide) ?_
          refine lv_aload_n hx hb d_FF_look_66 rfl (lv_at hl 1 rfl) ?_
          refine gF_ff_tree X hP d_FF_look_67 ?_
          refine lv_iload_n hx hb d_FF_look_70 rfl (lv_at hl 2 rfl) ?_
          refine lv_iconst (v := 1) hx hb d_FF_look_71 (by decide) ?_
          obtain ⟨v3, e1, h⟩ := bd_some h
          refine fx_i X (fx_runV (As := [.int x1, .int (1 : Int32)]) X (m_Tre_wordOf e1 _) hP hD kv_FF_175 ⟨Nat.le_of_ble_eq_true rfl, Nat.le_of_ble_eq_true rfl⟩ 7 rfl rfl rfl hl.1 rfl (Nat.le_of_ble_eq_true rfl) d_FF_look_72) hD hS (fun H locs hP hD hS => ?_)
          cases h
          exact xx_iret X hP hD hS d_FF_look_75
        replace h := if_f hc1 h
        by_cases hc2 : x2 = 2
        · replace h := if_t hc2 h
          refine lv_tableIn (off := 43) (tgt := 76) hx hb d_FF_look_33 (by rw [hc2]; decide +kernel) (by rw [hc2]; decide +kernel) (by rw [hc2]; decide +kernel) (by decide) ?_
          refine lv_iload_n hx hb d_FF_look_76 rfl (lv_at hl 0 rfl) ?_
          refine lv_iconst (v := 2) hx hb d_FF_look_77 (by decide) ?_
          refine lv_icmp_ne (tgt := 85) hx hb d_FF_look_78 (by decide) (fun hc => ?_) (fun hc => ?_)
          · have h := if_f hc h
            refine lv_aload_n hx hb d_FF_look_85 rfl (lv_at hl 1 rfl) ?_
            refine gF_ff_tree X hP d_FF_look_86 ?_
            refine lv_iload_n hx hb d_FF_look_89 rfl (lv_at hl 2 rfl) ?_
            refine lv_iconst (v := 2) hx hb d_FF_look_90 (by decide) ?_
            obtain ⟨v4, e1, h⟩ := bd_some h
            refine fx_i X (fx_runV (As := [.int x1, .int (2 : Int32)]) X (m_Tre_wordOf e1 _) hP hD kv_FF_175 ⟨Nat.le_of_ble_eq_true rfl, Nat.le_of_ble_eq_true rfl⟩ 7 rfl rfl rfl hl.1 rfl (Nat.le_of_ble_eq_true rfl) d_FF_look_91) hD hS (fun H locs hP hD hS => ?_)
            cases h
            exact xx_iret X hP hD hS d_FF_look_94
          · have h := if_t hc h
            refine lv_iconst (v := 1) hx hb d_FF_look_81 (by decide) ?_
            refine lv_goto (tgt := 94) hx hb d_FF_look_82 (by decide) ?_
            cases h
            exact xx_iret X hP hD hS d_FF_look_94
        replace h := if_f hc2 h
        by_cases hc3 : x2 = 3
        · replace h := if_t hc3 h
          refine lv_tableIn (off := 62) (tgt := 95) hx hb d_FF_look_33 (by rw [hc3]; decide +kernel) (by rw [hc3]; decide +kernel) (by rw [hc3]; decide +kernel) (by decide) ?_
          refine lv_aload_n hx hb d_FF_look_95 rfl (lv_at hl 1 rfl) ?_
          refine gF_ff_tree X hP d_FF_look_96 ?_
          refine lv_iload_n hx hb d_FF_look_99 rfl (lv_at hl 2 rfl) ?_
          obtain ⟨v5, e1, h⟩ := bd_some h
          refine fx_i X (fx_runV (As := [.int x1]) X (m_Tre_blocksOf e1 _) hP hD kv_FF_251 ⟨Nat.le_of_ble_eq_true rfl, Nat.le_of_ble_eq_true rfl⟩ 7 rfl rfl rfl hl.1 rfl (Nat.le_of_ble_eq_true rfl) d_FF_look_100) hD hS (fun H locs hP hD hS => ?_)
          cases h
          exact xx_iret X hP hD hS d_FF_look_103
        replace h := if_f hc3 h
        refine lv_tableOut (tgt := 104) hx hb d_FF_look_33 (sw3 hc0 hc1 hc2 hc3) (by decide) ?_
        refine lv_aload_n hx hb d_FF_look_104 rfl (lv_at hl 1 rfl) ?_
        refine gF_ff_tree X hP d_FF_look_105 ?_
        refine lv_iload_n hx hb d_FF_look_108 rfl (lv_at hl 2 rfl) ?_
        refine lv_iconst (v := 3) hx hb d_FF_look_109 (by decide) ?_
        obtain ⟨v6, e1, h⟩ := bd_some h
        refine fx_i X (fx_runV (As := [.int x1, .int (3 : Int32)]) X (m_Tre_wordOf e1 _) hP hD kv_FF_175 ⟨Nat.le_of_ble_eq_true rfl, Nat.le_of_ble_eq_true rfl⟩ 7 rfl rfl rfl hl.1 rfl (Nat.le_of_ble_eq_true rfl) d_FF_look_110) hD hS (fun H locs hP hD hS => ?_)
        cases h
        exact xx_iret X hP hD hS d_FF_look_113
      · have h := if_f hc h
        cases h
        exact xx_throwS (k := 1) (ik := 98) (is := 249) (ic := 102) (text := "no such what") (names := exN) X hE hZ htr (by decide) hP hD hS (by decide) (by decide) at_1_102 cl_98 in_E1 (List.mem_of_getElem? (i := 24) rfl) hl.1 d_FF_look_13 d_FF_look_16 d_FF_look_17 d_FF_look_19 d_FF_look_22 ⟨⟨by decide, Nat.le_of_ble_eq_true rfl⟩, by decide, by decide⟩
  · have h := if_f hk h
    cases h
    exact xx_leave X hE hk hP hD hS hce hcv hcl (Nat.le_refl _) (Nat.le_refl _)
theorem d_FF_count_0 : decode prog_1_method_20_code 0 = .ok (.aload_n 0, 1) := by decide +kernel
theorem d_FF_count_1 : decode prog_1_method_20_code 1 = .ok (.invokevirtual 204, 3) := by decide +kernel
theorem d_FF_count_4 : decode prog_1_method_20_code 4 = .ok (.iload_n 1, 1) := by decide +kernel
theorem d_FF_count_5 : decode prog_1_method_20_code 5 = .ok (.tableswitch 84 0 5 #[39, 47, 55, 63, 71, 76], 39) := by decide +kernel
theorem d_FF_count_44 : decode prog_1_method_20_code 44 = .ok (.aload_n 0, 1) := by decide +kernel
theorem d_FF_count_45 : decode prog_1_method_20_code 45 = .ok (.getfield 63, 3) := by decide +kernel
theorem d_FF_count_48 : decode prog_1_method_20_code 48 = .ok (.invokevirtual 254, 3) := by decide +kernel
theorem d_FF_count_51 : decode prog_1_method_20_code 51 = .ok (.ireturn, 1) := by decide +kernel
theorem d_FF_count_52 : decode prog_1_method_20_code 52 = .ok (.aload_n 0, 1) := by decide +kernel
theorem d_FF_count_53 : decode prog_1_method_20_code 53 = .ok (.getfield 75, 3) := by decide +kernel
theorem d_FF_count_56 : decode prog_1_method_20_code 56 = .ok (.invokevirtual 257, 3) := by decide +kernel
theorem d_FF_count_59 : decode prog_1_method_20_code 59 = .ok (.ireturn, 1) := by decide +kernel
theorem d_FF_count_60 : decode prog_1_method_20_code 60 = .ok (.aload_n 0, 1) := by decide +kernel
theorem d_FF_count_61 : decode prog_1_method_20_code 61 = .ok (.getfield 75, 3) := by decide +kernel
theorem d_FF_count_64 : decode prog_1_method_20_code 64 = .ok (.invokevirtual 260, 3) := by decide +kernel
theorem d_FF_count_67 : decode prog_1_method_20_code 67 = .ok (.ireturn, 1) := by decide +kernel
theorem d_FF_count_68 : decode prog_1_method_20_code 68 = .ok (.aload_n 0, 1) := by decide +kernel
theorem d_FF_count_69 : decode prog_1_method_20_code 69 = .ok (.getfield 75, 3) := by decide +kernel
theorem d_FF_count_72 : decode prog_1_method_20_code 72 = .ok (.invokevirtual 237, 3) := by decide +kernel
theorem d_FF_count_75 : decode prog_1_method_20_code 75 = .ok (.ireturn, 1) := by decide +kernel
theorem d_FF_count_76 : decode prog_1_method_20_code 76 = .ok (.aload_n 0, 1) := by decide +kernel
theorem d_FF_count_77 : decode prog_1_method_20_code 77 = .ok (.getfield 95, 3) := by decide +kernel
theorem d_FF_count_80 : decode prog_1_method_20_code 80 = .ok (.ireturn, 1) := by decide +kernel
theorem d_FF_count_81 : decode prog_1_method_20_code 81 = .ok (.aload_n 0, 1) := by decide +kernel
theorem d_FF_count_82 : decode prog_1_method_20_code 82 = .ok (.getfield 38, 3) := by decide +kernel
theorem d_FF_count_85 : decode prog_1_method_20_code 85 = .ok (.invokevirtual 263, 3) := by decide +kernel
theorem d_FF_count_88 : decode prog_1_method_20_code 88 = .ok (.ireturn, 1) := by decide +kernel
theorem d_FF_count_89 : decode prog_1_method_20_code 89 = .ok (.new 98, 3) := by decide +kernel
theorem d_FF_count_92 : decode prog_1_method_20_code 92 = .ok (.dup, 1) := by decide +kernel
theorem d_FF_count_93 : decode prog_1_method_20_code 93 = .ok (.ldc 249, 2) := by decide +kernel
theorem d_FF_count_95 : decode prog_1_method_20_code 95 = .ok (.invokespecial 102, 3) := by decide +kernel
theorem d_FF_count_98 : decode prog_1_method_20_code 98 = .ok (.athrow, 1) := by decide +kernel
set_option maxHeartbeats 4000000 in
set_option maxRecDepth 100000 in
theorem m_FF_count {l : Launch} {D : va_G} {ad : Nat → Nat} {ca : Nat → ClassId} {FU : Nat} {x1 : Int32} {g : St} {q : Nat × Int32 × St} (h : FF_count FU x1 g = some q) : CX l ⟨"FlashFiles", "count", "(I)I"⟩ prog_1_method_20_code 2 7 (some .int) D (tyF ca) (wF ad ca g) [.ref (ad 0), .int x1] q.1 (some (.int q.2.1)) (wF ad ca q.2.2) := by
  refine CX.fx (by decide) (Nat.le_of_ble_eq_true rfl) ?_
  intro p e s m below meth c A ls X hE hZ htr hP hD hl
  have hl : lv_has ls 2 [(0, .ref (ad 0)), (1, .int x1)] := hl
  have hS : va_S A s.heap s.heap [] := va_S.rf
  have hx := X.1
  have hb := X.2.1
  unfold FF_count at h
  refine lv_aload_n hx hb d_FF_count_0 rfl (lv_at hl 0 rfl) ?_
  obtain ⟨p1, e1, h⟩ := bd_some h
  refine xx_V (As := []) X (m_FF_requirePower e1) hZ htr hP hD hS kv_FF_204 ⟨⟨Nat.le_of_ble_eq_true rfl, Nat.le_of_ble_eq_true rfl⟩, Nat.le_of_ble_eq_true rfl, Nat.le_of_ble_eq_true rfl⟩ 0 rfl rfl rfl hl.1 rfl (Nat.le_of_ble_eq_true rfl) d_FF_count_1 (fun hk H locs hP hD hS => ?_) (fun hk H locs q9 ce hP hD hS hce hcv hcl => ?_)
  · have h := if_t hk h
    refine W.eq (g2 := F0 m 4 ls []) rfl ?_
    refine lv_iload_n hx hb d_FF_count_4 rfl (lv_at hl 1 rfl) ?_
    by_cases hc0 : x1 = 0
    · replace h := if_t hc0 h
      refine lv_tableIn (off := 39) (tgt := 44) hx hb d_FF_count_5 (by rw [hc0]; decide +kernel) (by rw [hc0]; decide +kernel) (by rw [hc0]; decide +kernel) (by decide) ?_
      refine lv_aload_n hx hb d_FF_count_44 rfl (lv_at hl 0 rfl) ?_
      refine gF_ff_tree X hP d_FF_count_45 ?_
      obtain ⟨v2, e1, h⟩ := bd_some h
      refine fx_i X (fx_runV (As := []) X (m_Tre_blocksInUse e1 _) hP hD kv_FF_254 ⟨Nat.le_of_ble_eq_true rfl, Nat.le_of_ble_eq_true rfl⟩ 7 rfl rfl rfl hl.1 rfl (Nat.le_of_ble_eq_true rfl) d_FF_count_48) hD hS (fun H locs hP hD hS => ?_)
      cases h
      exact xx_iret X hP hD hS d_FF_count_51
    replace h := if_f hc0 h
    by_cases hc1 : x1 = 1
    · replace h := if_t hc1 h
      refine lv_tableIn (off := 47) (tgt := 52) hx hb d_FF_count_5 (by rw [hc1]; decide +kernel) (by rw [hc1]; decide +kernel) (by rw [hc1]; decide +kernel) (by decide) ?_
      refine lv_aload_n hx hb d_FF_count_52 rfl (lv_at hl 0 rfl) ?_
      refine gF_ff_checkpoints X hP d_FF_count_53 ?_
      obtain ⟨v3, e1, h⟩ := bd_some h
      refine fx_i X (fx_runV (As := []) X (m_Chk_used e1 _) hP hD kv_FF_257 ⟨Nat.le_of_ble_eq_true rfl, Nat.le_of_ble_eq_true rfl⟩ 9 rfl rfl rfl hl.1 rfl (Nat.le_of_ble_eq_true rfl) d_FF_count_56) hD hS (fun H locs hP hD hS => ?_)
      cases h
      exact xx_iret X hP hD hS d_FF_count_59
    replace h := if_f hc1 h
    by_cases hc2 : x1 = 2
    · replace h := if_t hc2 h
      refine lv_tableIn (off := 55) (tgt := 60) hx hb d_FF_count_5 (by rw [hc2]; decide +kernel) (by rw [hc2]; decide +kernel) (by rw [hc2]; decide +kernel) (by decide) ?_
      refine lv_aload_n hx hb d_FF_count_60 rfl (lv_at hl 0 rfl) ?_
      refine gF_ff_checkpoints X hP d_FF_count_61 ?_
      obtain ⟨v4, e1, h⟩ := bd_some h
      refine fx_i X (fx_runV (As := []) X (m_Chk_fresh e1 _) hP hD kv_FF_260 ⟨Nat.le_of_ble_eq_true rfl, Nat.le_of_ble_eq_true rfl⟩ 9 rfl rfl rfl hl.1 rfl (Nat.le_of_ble_eq_true rfl) d_FF_count_64) hD hS (fun H locs hP hD hS => ?_)
      cases h
      exact xx_iret X hP hD hS d_FF_count_67
    replace h := if_f hc2 h
    by_cases hc3 : x1 = 3
    · replace h := if_t hc3 h
      refine lv_tableIn (off := 63) (tgt := 68) hx hb d_FF_count_5 (by rw [hc3]; decide +kernel) (by rw [hc3]; decide +kernel) (by rw [hc3]; decide +kernel) (by decide) ?_
      refine lv_aload_n hx hb d_FF_count_68 rfl (lv_at hl 0 rfl) ?_
      refine gF_ff_checkpoints X hP d_FF_count_69 ?_
      obtain ⟨v5, e1, h⟩ := bd_some h
      refine fx_i X (fx_runV (As := []) X (m_Chk_taken e1 _) hP hD kv_FF_237 ⟨Nat.le_of_ble_eq_true rfl, Nat.le_of_ble_eq_true rfl⟩ 9 rfl rfl rfl hl.1 rfl (Nat.le_of_ble_eq_true rfl) d_FF_count_72) hD hS (fun H locs hP hD hS => ?_)
      cases h
      exact xx_iret X hP hD hS d_FF_count_75
    replace h := if_f hc3 h
    by_cases hc4 : x1 = 4
    · replace h := if_t hc4 h
      refine lv_tableIn (off := 71) (tgt := 76) hx hb d_FF_count_5 (by rw [hc4]; decide +kernel) (by rw [hc4]; decide +kernel) (by rw [hc4]; decide +kernel) (by decide) ?_
      refine lv_aload_n hx hb d_FF_count_76 rfl (lv_at hl 0 rfl) ?_
      refine gF_ff_broughtForward X hP d_FF_count_77 ?_
      cases h
      exact xx_iret X hP hD hS d_FF_count_80
    replace h := if_f hc4 h
    by_cases hc5 : x1 = 5
    · replace h := if_t hc5 h
      refine lv_tableIn (off := 76) (tgt := 81) hx hb d_FF_count_5 (by rw [hc5]; decide +kernel) (by rw [hc5]; decide +kernel) (by rw [hc5]; decide +kernel) (by decide) ?_
      refine lv_aload_n hx hb d_FF_count_81 rfl (lv_at hl 0 rfl) ?_
      refine gF_ff_table X hP d_FF_count_82 ?_
      obtain ⟨v6, e1, h⟩ := bd_some h
      refine fx_i X (fx_runV (As := []) X (m_Tab_idsInUse e1 _) hP hD kv_FF_263 ⟨Nat.le_of_ble_eq_true rfl, Nat.le_of_ble_eq_true rfl⟩ 4 rfl rfl rfl hl.1 rfl (Nat.le_of_ble_eq_true rfl) d_FF_count_85) hD hS (fun H locs hP hD hS => ?_)
      cases h
      exact xx_iret X hP hD hS d_FF_count_88
    replace h := if_f hc5 h
    refine lv_tableOut (tgt := 89) hx hb d_FF_count_5 (sw5 hc0 hc1 hc2 hc3 hc4 hc5) (by decide) ?_
    cases h
    exact xx_throwS (k := 1) (ik := 98) (is := 249) (ic := 102) (text := "no such what") (names := exN) X hE hZ htr (by decide) hP hD hS (by decide) (by decide) at_1_102 cl_98 in_E1 (List.mem_of_getElem? (i := 24) rfl) hl.1 d_FF_count_89 d_FF_count_92 d_FF_count_93 d_FF_count_95 d_FF_count_98 ⟨⟨by decide, Nat.le_of_ble_eq_true rfl⟩, by decide, by decide⟩
  · have h := if_f hk h
    cases h
    exact xx_leave X hE hk hP hD hS hce hcv hcl (Nat.le_refl _) (Nat.le_refl _)
theorem d_FF_power_0 : decode prog_1_method_21_code 0 = .ok (.aload_n 0, 1) := by decide +kernel
theorem d_FF_power_1 : decode prog_1_method_21_code 1 = .ok (.invokevirtual 204, 3) := by decide +kernel
theorem d_FF_power_4 : decode prog_1_method_21_code 4 = .ok (.aload_n 0, 1) := by decide +kernel
theorem d_FF_power_5 : decode prog_1_method_21_code 5 = .ok (.invokevirtual 266, 3) := by decide +kernel
theorem d_FF_power_8 : decode prog_1_method_21_code 8 = .ok (.return_, 1) := by decide +kernel
set_option maxHeartbeats 4000000 in
set_option maxRecDepth 100000 in
theorem m_FF_power {l : Launch} {D : va_G} {ad : Nat → Nat} {ca : Nat → ClassId} {FU : Nat} {g : St} {q : Nat × Int32 × St} (h : FF_power FU  g = some q) : CX l ⟨"FlashFiles", "power", "()V"⟩ prog_1_method_21_code 1 7 none D (tyF ca) (wF ad ca g) [.ref (ad 0)] q.1 none (wF ad ca q.2.2) := by
  refine CX.fx (by decide) (Nat.le_of_ble_eq_true rfl) ?_
  intro p e s m below meth c A ls X hE hZ htr hP hD hl
  have hl : lv_has ls 1 [(0, .ref (ad 0))] := hl
  have hS : va_S A s.heap s.heap [] := va_S.rf
  have hx := X.1
  have hb := X.2.1
  unfold FF_power at h
  refine lv_aload_n hx hb d_FF_power_0 rfl (lv_at hl 0 rfl) ?_
  obtain ⟨p1, e1, h⟩ := bd_some h
  refine xx_V (As := []) X (m_FF_requirePower e1) hZ htr hP hD hS kv_FF_204 ⟨⟨Nat.le_of_ble_eq_true rfl, Nat.le_of_ble_eq_true rfl⟩, Nat.le_of_ble_eq_true rfl, Nat.le_of_ble_eq_true rfl⟩ 0 rfl rfl rfl hl.1 rfl (Nat.le_of_ble_eq_true rfl) d_FF_power_1 (fun hk H locs hP hD hS => ?_) (fun hk H locs q9 ce hP hD hS hce hcv hcl => ?_)
  · have h := if_t hk h
    refine W.eq (g2 := F0 m 4 ls []) rfl ?_
    refine lv_aload_n hx hb d_FF_power_4 rfl (lv_at hl 0 rfl) ?_
    obtain ⟨p2, e1, h⟩ := bd_some h
    refine fx_v X (fx_runV (As := []) X (m_FF_losePower e1 _) hP hD kv_FF_266 ⟨Nat.le_of_ble_eq_true rfl, Nat.le_of_ble_eq_true rfl⟩ 0 rfl rfl rfl hl.1 rfl (Nat.le_of_ble_eq_true rfl) d_FF_power_5) hD hS (fun H locs hP hD hS => ?_)
    cases h
    exact xx_vret X hP hD hS d_FF_power_8
  · have h := if_f hk h
    cases h
    exact xx_leave X hE hk hP hD hS hce hcv hcl (Nat.le_refl _) (Nat.le_refl _)
theorem d_FF_cut_0 : decode prog_1_method_22_code 0 = .ok (.aload_n 0, 1) := by decide +kernel
theorem d_FF_cut_1 : decode prog_1_method_22_code 1 = .ok (.invokevirtual 204, 3) := by decide +kernel
theorem d_FF_cut_4 : decode prog_1_method_22_code 4 = .ok (.aload_n 0, 1) := by decide +kernel
theorem d_FF_cut_5 : decode prog_1_method_22_code 5 = .ok (.iload_n 1, 1) := by decide +kernel
theorem d_FF_cut_6 : decode prog_1_method_22_code 6 = .ok (.ifCond .ge 7, 3) := by decide +kernel
theorem d_FF_cut_9 : decode prog_1_method_22_code 9 = .ok (.iconst (-1), 1) := by decide +kernel
theorem d_FF_cut_10 : decode prog_1_method_22_code 10 = .ok (.goto 4, 3) := by decide +kernel
theorem d_FF_cut_13 : decode prog_1_method_22_code 13 = .ok (.iload_n 1, 1) := by decide +kernel
theorem d_FF_cut_14 : decode prog_1_method_22_code 14 = .ok (.putfield 92, 3) := by decide +kernel
theorem d_FF_cut_17 : decode prog_1_method_22_code 17 = .ok (.return_, 1) := by decide +kernel
set_option maxHeartbeats 4000000 in
set_option maxRecDepth 100000 in
theorem m_FF_cut {l : Launch} {D : va_G} {ad : Nat → Nat} {ca : Nat → ClassId} {FU : Nat} {x1 : Int32} {g : St} {q : Nat × Int32 × St} (h : FF_cut FU x1 g = some q) : CX l ⟨"FlashFiles", "cut", "(I)V"⟩ prog_1_method_22_code 2 7 none D (tyF ca) (wF ad ca g) [.ref (ad 0), .int x1] q.1 none (wF ad ca q.2.2) := by
  refine CX.fx (by decide) (Nat.le_of_ble_eq_true rfl) ?_
  intro p e s m below meth c A ls X hE hZ htr hP hD hl
  have hl : lv_has ls 2 [(0, .ref (ad 0)), (1, .int x1)] := hl
  have hS : va_S A s.heap s.heap [] := va_S.rf
  have hx := X.1
  have hb := X.2.1
  unfold FF_cut at h
  refine lv_aload_n hx hb d_FF_cut_0 rfl (lv_at hl 0 rfl) ?_
  obtain ⟨p1, e1, h⟩ := bd_some h
  refine xx_V (As := []) X (m_FF_requirePower e1) hZ htr hP hD hS kv_FF_204 ⟨⟨Nat.le_of_ble_eq_true rfl, Nat.le_of_ble_eq_true rfl⟩, Nat.le_of_ble_eq_true rfl, Nat.le_of_ble_eq_true rfl⟩ 0 rfl rfl rfl hl.1 rfl (Nat.le_of_ble_eq_true rfl) d_FF_cut_1 (fun hk H locs hP hD hS => ?_) (fun hk H locs q9 ce hP hD hS hce hcv hcl => ?_)
  · have h := if_t hk h
    refine W.eq (g2 := F0 m 4 ls []) rfl ?_
    refine lv_aload_n hx hb d_FF_cut_4 rfl (lv_at hl 0 rfl) ?_
    refine lv_iload_n hx hb d_FF_cut_5 rfl (lv_at hl 1 rfl) ?_
    refine lv_if_ge (tgt := 13) hx hb d_FF_cut_6 (by decide) (fun hc => ?_) (fun hc => ?_)
    · have h := if_t hc h
      refine lv_iload_n hx hb d_FF_cut_13 rfl (lv_at hl 1 rfl) ?_
      obtain ⟨g2, e1, h⟩ := nx_some h
      refine uF_ff_cutAfter X hP hD hS e1 d_FF_cut_14 (fun H locs hP hD hS => ?_)
      cases h
      exact xx_vret X hP hD hS d_FF_cut_17
    · have h := if_f hc h
      refine lv_iconst (v := -1) hx hb d_FF_cut_9 (by decide) ?_
      refine lv_goto (tgt := 14) hx hb d_FF_cut_10 (by decide) ?_
      obtain ⟨g3, e1, h⟩ := nx_some h
      refine uF_ff_cutAfter X hP hD hS e1 d_FF_cut_14 (fun H locs hP hD hS => ?_)
      cases h
      exact xx_vret X hP hD hS d_FF_cut_17
  · have h := if_f hk h
    cases h
    exact xx_leave X hE hk hP hD hS hce hcv hcl (Nat.le_refl _) (Nat.le_refl _)
theorem d_FF_mount_0 : decode prog_1_method_23_code 0 = .ok (.aload_n 0, 1) := by decide +kernel
theorem d_FF_mount_1 : decode prog_1_method_23_code 1 = .ok (.getfield 88, 3) := by decide +kernel
theorem d_FF_mount_4 : decode prog_1_method_23_code 4 = .ok (.iconst 1, 1) := by decide +kernel
theorem d_FF_mount_5 : decode prog_1_method_23_code 5 = .ok (.if_icmp .eq 14, 3) := by decide +kernel
theorem d_FF_mount_8 : decode prog_1_method_23_code 8 = .ok (.new 119, 3) := by decide +kernel
theorem d_FF_mount_11 : decode prog_1_method_23_code 11 = .ok (.dup, 1) := by decide +kernel
theorem d_FF_mount_12 : decode prog_1_method_23_code 12 = .ok (.ldc_w 269, 3) := by decide +kernel
theorem d_FF_mount_15 : decode prog_1_method_23_code 15 = .ok (.invokespecial 123, 3) := by decide +kernel
theorem d_FF_mount_18 : decode prog_1_method_23_code 18 = .ok (.athrow, 1) := by decide +kernel
theorem d_FF_mount_19 : decode prog_1_method_23_code 19 = .ok (.aload_n 0, 1) := by decide +kernel
theorem d_FF_mount_20 : decode prog_1_method_23_code 20 = .ok (.aload_n 0, 1) := by decide +kernel
theorem d_FF_mount_21 : decode prog_1_method_23_code 21 = .ok (.getfield 75, 3) := by decide +kernel
theorem d_FF_mount_24 : decode prog_1_method_23_code 24 = .ok (.invokevirtual 271, 3) := by decide +kernel
theorem d_FF_mount_27 : decode prog_1_method_23_code 27 = .ok (.putfield 95, 3) := by decide +kernel
theorem d_FF_mount_30 : decode prog_1_method_23_code 30 = .ok (.aload_n 0, 1) := by decide +kernel
theorem d_FF_mount_31 : decode prog_1_method_23_code 31 = .ok (.getfield 75, 3) := by decide +kernel
theorem d_FF_mount_34 : decode prog_1_method_23_code 34 = .ok (.invokevirtual 112, 3) := by decide +kernel
theorem d_FF_mount_37 : decode prog_1_method_23_code 37 = .ok (.aload_n 0, 1) := by decide +kernel
theorem d_FF_mount_38 : decode prog_1_method_23_code 38 = .ok (.iconst 2, 1) := by decide +kernel
theorem d_FF_mount_39 : decode prog_1_method_23_code 39 = .ok (.putfield 88, 3) := by decide +kernel
theorem d_FF_mount_42 : decode prog_1_method_23_code 42 = .ok (.aload_n 0, 1) := by decide +kernel
theorem d_FF_mount_43 : decode prog_1_method_23_code 43 = .ok (.getfield 95, 3) := by decide +kernel
theorem d_FF_mount_46 : decode prog_1_method_23_code 46 = .ok (.ireturn, 1) := by decide +kernel
set_option maxHeartbeats 4000000 in
set_option maxRecDepth 100000 in
theorem m_FF_mount {l : Launch} {D : va_G} {ad : Nat → Nat} {ca : Nat → ClassId} {FU : Nat} {g : St} {q : Nat × Int32 × St} (h : FF_mount FU  g = some q) : CX l ⟨"FlashFiles", "mount", "()I"⟩ prog_1_method_23_code 1 9 (some .int) D (tyF ca) (wF ad ca g) [.ref (ad 0)] q.1 (some (.int q.2.1)) (wF ad ca q.2.2) := by
  refine CX.fx (by decide) (Nat.le_of_ble_eq_true rfl) ?_
  intro p e s m below meth c A ls X hE hZ htr hP hD hl
  have hl : lv_has ls 1 [(0, .ref (ad 0))] := hl
  have hS : va_S A s.heap s.heap [] := va_S.rf
  have hx := X.1
  have hb := X.2.1
  unfold FF_mount at h
  refine lv_aload_n hx hb d_FF_mount_0 rfl (lv_at hl 0 rfl) ?_
  refine gF_ff_state X hP d_FF_mount_1 ?_
  refine lv_iconst (v := 1) hx hb d_FF_mount_4 (by decide) ?_
  refine lv_icmp_eq (tgt := 19) hx hb d_FF_mount_5 (by decide) (fun hc => ?_) (fun hc => ?_)
  · have h := if_t hc h
    refine lv_aload_n hx hb d_FF_mount_19 rfl (lv_at hl 0 rfl) ?_
    refine lv_aload_n hx hb d_FF_mount_20 rfl (lv_at hl 0 rfl) ?_
    refine gF_ff_checkpoints X hP d_FF_mount_21 ?_
    obtain ⟨p1, e1, h⟩ := bd_some h
    refine fx_i X (fx_runV (As := []) X (m_Chk_bringBack e1 _) hP hD kv_FF_271 ⟨Nat.le_of_ble_eq_true rfl, Nat.le_of_ble_eq_true rfl⟩ 9 rfl rfl rfl hl.1 rfl (Nat.le_of_ble_eq_true rfl) d_FF_mount_24) hD hS (fun H locs hP hD hS => ?_)
    obtain ⟨g2, e1, h⟩ := nx_some h
    refine uF_ff_broughtForward X hP hD hS e1 d_FF_mount_27 (fun H locs hP hD hS => ?_)
    refine lv_aload_n hx hb d_FF_mount_30 rfl (lv_at hl 0 rfl) ?_
    refine gF_ff_checkpoints X hP d_FF_mount_31 ?_
    obtain ⟨p3, e1, h⟩ := bd_some h
    refine fx_v X (fx_runV (As := []) X (m_Chk_take e1 _) hP hD kv_FF_112 ⟨Nat.le_of_ble_eq_true rfl, Nat.le_of_ble_eq_true rfl⟩ 9 rfl rfl rfl hl.1 rfl (Nat.le_of_ble_eq_true rfl) d_FF_mount_34) hD hS (fun H locs hP hD hS => ?_)
    refine lv_aload_n hx hb d_FF_mount_37 rfl (lv_at hl 0 rfl) ?_
    refine lv_iconst (v := 2) hx hb d_FF_mount_38 (by decide) ?_
    obtain ⟨g4, e1, h⟩ := nx_some h
    refine uF_ff_state X hP hD hS e1 d_FF_mount_39 (fun H locs hP hD hS => ?_)
    refine lv_aload_n hx hb d_FF_mount_42 rfl (lv_at hl 0 rfl) ?_
    refine gF_ff_broughtForward X hP d_FF_mount_43 ?_
    cases h
    exact xx_iret X hP hD hS d_FF_mount_46
  · have h := if_f hc h
    cases h
    exact xx_throwW (k := 2) (ik := 119) (is := 269) (ic := 123) (text := "no device, or mounted") (names := exN) X hE hZ htr (by decide) hP hD hS (by decide) (by decide) at_2_123 cl_119 in_E2 (List.mem_of_getElem? (i := 25) rfl) hl.1 d_FF_mount_8 d_FF_mount_11 d_FF_mount_12 d_FF_mount_15 d_FF_mount_18 ⟨⟨by decide, Nat.le_of_ble_eq_true rfl⟩, by decide, by decide⟩
theorem d_FF_clean_0 : decode prog_1_method_24_code 0 = .ok (.aload_n 0, 1) := by decide +kernel
theorem d_FF_clean_1 : decode prog_1_method_24_code 1 = .ok (.invokevirtual 204, 3) := by decide +kernel
theorem d_FF_clean_4 : decode prog_1_method_24_code 4 = .ok (.aload_n 0, 1) := by decide +kernel
theorem d_FF_clean_5 : decode prog_1_method_24_code 5 = .ok (.getfield 75, 3) := by decide +kernel
theorem d_FF_clean_8 : decode prog_1_method_24_code 8 = .ok (.invokevirtual 274, 3) := by decide +kernel
theorem d_FF_clean_11 : decode prog_1_method_24_code 11 = .ok (.return_, 1) := by decide +kernel
set_option maxHeartbeats 4000000 in
set_option maxRecDepth 100000 in
theorem m_FF_clean {l : Launch} {D : va_G} {ad : Nat → Nat} {ca : Nat → ClassId} {FU : Nat} {g : St} {q : Nat × Int32 × St} (h : FF_clean FU  g = some q) : CX l ⟨"FlashFiles", "clean", "()V"⟩ prog_1_method_24_code 1 7 none D (tyF ca) (wF ad ca g) [.ref (ad 0)] q.1 none (wF ad ca q.2.2) := by
  refine CX.fx (by decide) (Nat.le_of_ble_eq_true rfl) ?_
  intro p e s m below meth c A ls X hE hZ htr hP hD hl
  have hl : lv_has ls 1 [(0, .ref (ad 0))] := hl
  have hS : va_S A s.heap s.heap [] := va_S.rf
  have hx := X.1
  have hb := X.2.1
  unfold FF_clean at h
  refine lv_aload_n hx hb d_FF_clean_0 rfl (lv_at hl 0 rfl) ?_
  obtain ⟨p1, e1, h⟩ := bd_some h
  refine xx_V (As := []) X (m_FF_requirePower e1) hZ htr hP hD hS kv_FF_204 ⟨⟨Nat.le_of_ble_eq_true rfl, Nat.le_of_ble_eq_true rfl⟩, Nat.le_of_ble_eq_true rfl, Nat.le_of_ble_eq_true rfl⟩ 0 rfl rfl rfl hl.1 rfl (Nat.le_of_ble_eq_true rfl) d_FF_clean_1 (fun hk H locs hP hD hS => ?_) (fun hk H locs q9 ce hP hD hS hce hcv hcl => ?_)
  · have h := if_t hk h
    refine W.eq (g2 := F0 m 4 ls []) rfl ?_
    refine lv_aload_n hx hb d_FF_clean_4 rfl (lv_at hl 0 rfl) ?_
    refine gF_ff_checkpoints X hP d_FF_clean_5 ?_
    obtain ⟨p2, e1, h⟩ := bd_some h
    refine fx_v X (fx_runV (As := []) X (m_Chk_cleanWithin e1 _) hP hD kv_FF_274 ⟨Nat.le_of_ble_eq_true rfl, Nat.le_of_ble_eq_true rfl⟩ 9 rfl rfl rfl hl.1 rfl (Nat.le_of_ble_eq_true rfl) d_FF_clean_8) hD hS (fun H locs hP hD hS => ?_)
    cases h
    exact xx_vret X hP hD hS d_FF_clean_11
  · have h := if_f hk h
    cases h
    exact xx_leave X hE hk hP hD hS hce hcv hcl (Nat.le_refl _) (Nat.le_refl _)
theorem d_FF_faults_0 : decode prog_1_method_25_code 0 = .ok (.aload_n 0, 1) := by decide +kernel
theorem d_FF_faults_1 : decode prog_1_method_25_code 1 = .ok (.invokevirtual 204, 3) := by decide +kernel
theorem d_FF_faults_4 : decode prog_1_method_25_code 4 = .ok (.aload_n 0, 1) := by decide +kernel
theorem d_FF_faults_5 : decode prog_1_method_25_code 5 = .ok (.getfield 84, 3) := by decide +kernel
theorem d_FF_faults_8 : decode prog_1_method_25_code 8 = .ok (.invokevirtual 277, 3) := by decide +kernel
theorem d_FF_faults_11 : decode prog_1_method_25_code 11 = .ok (.ireturn, 1) := by decide +kernel
set_option maxHeartbeats 4000000 in
set_option maxRecDepth 100000 in
theorem m_FF_faults {l : Launch} {D : va_G} {ad : Nat → Nat} {ca : Nat → ClassId} {FU : Nat} {g : St} {q : Nat × Int32 × St} (h : FF_faults FU  g = some q) : CX l ⟨"FlashFiles", "faults", "()I"⟩ prog_1_method_25_code 1 7 (some .int) D (tyF ca) (wF ad ca g) [.ref (ad 0)] q.1 (some (.int q.2.1)) (wF ad ca q.2.2) := by
  refine CX.fx (by decide) (Nat.le_of_ble_eq_true rfl) ?_
  intro p e s m below meth c A ls X hE hZ htr hP hD hl
  have hl : lv_has ls 1 [(0, .ref (ad 0))] := hl
  have hS : va_S A s.heap s.heap [] := va_S.rf
  have hx := X.1
  have hb := X.2.1
  unfold FF_faults at h
  refine lv_aload_n hx hb d_FF_faults_0 rfl (lv_at hl 0 rfl) ?_
  obtain ⟨p1, e1, h⟩ := bd_some h
  refine xx_V (As := []) X (m_FF_requirePower e1) hZ htr hP hD hS kv_FF_204 ⟨⟨Nat.le_of_ble_eq_true rfl, Nat.le_of_ble_eq_true rfl⟩, Nat.le_of_ble_eq_true rfl, Nat.le_of_ble_eq_true rfl⟩ 0 rfl rfl rfl hl.1 rfl (Nat.le_of_ble_eq_true rfl) d_FF_faults_1 (fun hk H locs hP hD hS => ?_) (fun hk H locs q9 ce hP hD hS hce hcv hcl => ?_)
  · have h := if_t hk h
    refine W.eq (g2 := F0 m 4 ls []) rfl ?_
    refine lv_aload_n hx hb d_FF_faults_4 rfl (lv_at hl 0 rfl) ?_
    refine gF_ff_inspector X hP d_FF_faults_5 ?_
    obtain ⟨p2, e1, h⟩ := bd_some h
    refine fx_i X (fx_runV (As := []) X (m_Ins_inspect e1 _) hP hD kv_FF_277 ⟨Nat.le_of_ble_eq_true rfl, Nat.le_of_ble_eq_true rfl⟩ 10 rfl rfl rfl hl.1 rfl (Nat.le_of_ble_eq_true rfl) d_FF_faults_8) hD hS (fun H locs hP hD hS => ?_)
    cases h
    exact xx_iret X hP hD hS d_FF_faults_11
  · have h := if_f hk h
    cases h
    exact xx_leave X hE hk hP hD hS hce hcv hcl (Nat.le_refl _) (Nat.le_refl _)
