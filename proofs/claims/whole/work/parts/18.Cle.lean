theorem d_Cle_cost_0 : decode prog_3_method_3_code 0 = .ok (.aload_n 0, 1) := by decide +kernel
theorem d_Cle_cost_1 : decode prog_3_method_3_code 1 = .ok (.getfield 19, 3) := by decide +kernel
theorem d_Cle_cost_4 : decode prog_3_method_3_code 4 = .ok (.iload_n 1, 1) := by decide +kernel
theorem d_Cle_cost_5 : decode prog_3_method_3_code 5 = .ok (.invokevirtual 51, 3) := by decide +kernel
theorem d_Cle_cost_8 : decode prog_3_method_3_code 8 = .ok (.iconst 2, 1) := by decide +kernel
theorem d_Cle_cost_9 : decode prog_3_method_3_code 9 = .ok (.aload_n 0, 1) := by decide +kernel
theorem d_Cle_cost_10 : decode prog_3_method_3_code 10 = .ok (.getfield 19, 3) := by decide +kernel
theorem d_Cle_cost_13 : decode prog_3_method_3_code 13 = .ok (.iload_n 1, 1) := by decide +kernel
theorem d_Cle_cost_14 : decode prog_3_method_3_code 14 = .ok (.invokevirtual 56, 3) := by decide +kernel
theorem d_Cle_cost_17 : decode prog_3_method_3_code 17 = .ok (.imul, 1) := by decide +kernel
theorem d_Cle_cost_18 : decode prog_3_method_3_code 18 = .ok (.iadd, 1) := by decide +kernel
theorem d_Cle_cost_19 : decode prog_3_method_3_code 19 = .ok (.ireturn, 1) := by decide +kernel
set_option maxHeartbeats 4000000 in
set_option maxRecDepth 100000 in
theorem m_Cle_cost {l : Launch} {D : va_G} {ad : Nat → Nat} {ca : Nat → ClassId} {FU : Nat} {x1 : Int32} {g : St} {q : Int32} (h : Cle_cost FU x1 g = some q) : CI l ⟨"FlashFiles$Cleaner", "cost", "(I)I"⟩ prog_3_method_3_code 2 2 (some .int) D (tyF ca) (wF ad ca g) [.ref (ad 8), .int x1] q (wF ad ca g) := by
  intro sz
  refine Met.fx (Qc := fun A => fxQi D (tyF ca) A (wF ad ca g) q) (by decide) (Nat.le_of_ble_eq_true rfl) ?_
  intro p e s m below meth c A ls X hP hD hl
  have hl : lv_has ls 2 [(0, .ref (ad 8)), (1, .int x1)] := hl
  have hS : va_S A s.heap s.heap [] := va_S.rf
  have hx := X.1
  have hb := X.2.1
  unfold Cle_cost at h
  refine lv_aload_n hx hb d_Cle_cost_0 rfl (lv_at hl 0 rfl) ?_
  refine gF_cle_log X hP d_Cle_cost_1 ?_
  refine lv_iload_n hx hb d_Cle_cost_4 rfl (lv_at hl 1 rfl) ?_
  obtain ⟨v1, e1, h⟩ := bd_some h
  refine fx_i X (fx_runV (As := [.int x1]) X (m_Log_nodesIn e1 _) hP hD kv_Cle_51 ⟨Nat.le_of_ble_eq_true rfl, Nat.le_of_ble_eq_true rfl⟩ 5 rfl rfl rfl hl.1 rfl (Nat.le_of_ble_eq_true rfl) d_Cle_cost_5) hD hS (fun H locs hP hD hS => ?_)
  refine lv_iconst (v := 2) hx hb d_Cle_cost_8 (by decide) ?_
  refine lv_aload_n hx hb d_Cle_cost_9 rfl (lv_at hl 0 rfl) ?_
  refine gF_cle_log X hP d_Cle_cost_10 ?_
  refine lv_iload_n hx hb d_Cle_cost_13 rfl (lv_at hl 1 rfl) ?_
  obtain ⟨v2, e1, h⟩ := bd_some h
  refine fx_i X (fx_runV (As := [.int x1]) X (m_Log_dataIn e1 _) hP hD kv_Cle_56 ⟨Nat.le_of_ble_eq_true rfl, Nat.le_of_ble_eq_true rfl⟩ 5 rfl rfl rfl hl.1 rfl (Nat.le_of_ble_eq_true rfl) d_Cle_cost_14) hD hS (fun H locs hP hD hS => ?_)
  refine lv_imul hx hb d_Cle_cost_17 ?_
  refine lv_iadd hx hb d_Cle_cost_18 ?_
  cases h
  exact fx_iret X hP hD hS d_Cle_cost_19
theorem d_Cle_cheapest_0 : decode prog_3_method_4_code 0 = .ok (.iconst (-1), 1) := by decide +kernel
theorem d_Cle_cheapest_1 : decode prog_3_method_4_code 1 = .ok (.istore_n 2, 1) := by decide +kernel
theorem d_Cle_cheapest_2 : decode prog_3_method_4_code 2 = .ok (.iload_n 1, 1) := by decide +kernel
theorem d_Cle_cheapest_3 : decode prog_3_method_4_code 3 = .ok (.iconst 1, 1) := by decide +kernel
theorem d_Cle_cheapest_4 : decode prog_3_method_4_code 4 = .ok (.iadd, 1) := by decide +kernel
theorem d_Cle_cheapest_5 : decode prog_3_method_4_code 5 = .ok (.istore_n 3, 1) := by decide +kernel
theorem d_Cle_cheapest_6 : decode prog_3_method_4_code 6 = .ok (.iconst 0, 1) := by decide +kernel
theorem d_Cle_cheapest_7 : decode prog_3_method_4_code 7 = .ok (.istore 4, 2) := by decide +kernel
theorem d_Cle_cheapest_9 : decode prog_3_method_4_code 9 = .ok (.iload 4, 2) := by decide +kernel
theorem d_Cle_cheapest_11 : decode prog_3_method_4_code 11 = .ok (.aload_n 0, 1) := by decide +kernel
theorem d_Cle_cheapest_12 : decode prog_3_method_4_code 12 = .ok (.getfield 19, 3) := by decide +kernel
theorem d_Cle_cheapest_15 : decode prog_3_method_4_code 15 = .ok (.invokevirtual 59, 3) := by decide +kernel
theorem d_Cle_cheapest_18 : decode prog_3_method_4_code 18 = .ok (.if_icmp .ge 96, 3) := by decide +kernel
theorem d_Cle_cheapest_21 : decode prog_3_method_4_code 21 = .ok (.aload_n 0, 1) := by decide +kernel
theorem d_Cle_cheapest_22 : decode prog_3_method_4_code 22 = .ok (.getfield 19, 3) := by decide +kernel
theorem d_Cle_cheapest_25 : decode prog_3_method_4_code 25 = .ok (.iload 4, 2) := by decide +kernel
theorem d_Cle_cheapest_27 : decode prog_3_method_4_code 27 = .ok (.invokevirtual 51, 3) := by decide +kernel
theorem d_Cle_cheapest_30 : decode prog_3_method_4_code 30 = .ok (.aload_n 0, 1) := by decide +kernel
theorem d_Cle_cheapest_31 : decode prog_3_method_4_code 31 = .ok (.getfield 19, 3) := by decide +kernel
theorem d_Cle_cheapest_34 : decode prog_3_method_4_code 34 = .ok (.iload 4, 2) := by decide +kernel
theorem d_Cle_cheapest_36 : decode prog_3_method_4_code 36 = .ok (.invokevirtual 56, 3) := by decide +kernel
theorem d_Cle_cheapest_39 : decode prog_3_method_4_code 39 = .ok (.iadd, 1) := by decide +kernel
theorem d_Cle_cheapest_40 : decode prog_3_method_4_code 40 = .ok (.istore 5, 2) := by decide +kernel
theorem d_Cle_cheapest_42 : decode prog_3_method_4_code 42 = .ok (.iload 5, 2) := by decide +kernel
theorem d_Cle_cheapest_44 : decode prog_3_method_4_code 44 = .ok (.ifCond .le 36, 3) := by decide +kernel
theorem d_Cle_cheapest_47 : decode prog_3_method_4_code 47 = .ok (.iload 5, 2) := by decide +kernel
theorem d_Cle_cheapest_49 : decode prog_3_method_4_code 49 = .ok (.bipush 16, 2) := by decide +kernel
theorem d_Cle_cheapest_51 : decode prog_3_method_4_code 51 = .ok (.if_icmp .ge 29, 3) := by decide +kernel
theorem d_Cle_cheapest_54 : decode prog_3_method_4_code 54 = .ok (.aload_n 0, 1) := by decide +kernel
theorem d_Cle_cheapest_55 : decode prog_3_method_4_code 55 = .ok (.getfield 23, 3) := by decide +kernel
theorem d_Cle_cheapest_58 : decode prog_3_method_4_code 58 = .ok (.iload 4, 2) := by decide +kernel
theorem d_Cle_cheapest_60 : decode prog_3_method_4_code 60 = .ok (.baload, 1) := by decide +kernel
theorem d_Cle_cheapest_61 : decode prog_3_method_4_code 61 = .ok (.ifCond .ne 19, 3) := by decide +kernel
theorem d_Cle_cheapest_64 : decode prog_3_method_4_code 64 = .ok (.aload_n 0, 1) := by decide +kernel
theorem d_Cle_cheapest_65 : decode prog_3_method_4_code 65 = .ok (.getfield 19, 3) := by decide +kernel
theorem d_Cle_cheapest_68 : decode prog_3_method_4_code 68 = .ok (.iload 4, 2) := by decide +kernel
theorem d_Cle_cheapest_70 : decode prog_3_method_4_code 70 = .ok (.invokevirtual 63, 3) := by decide +kernel
theorem d_Cle_cheapest_73 : decode prog_3_method_4_code 73 = .ok (.ifCond .ne 7, 3) := by decide +kernel
theorem d_Cle_cheapest_76 : decode prog_3_method_4_code 76 = .ok (.iconst 1, 1) := by decide +kernel
theorem d_Cle_cheapest_77 : decode prog_3_method_4_code 77 = .ok (.goto 4, 3) := by decide +kernel
theorem d_Cle_cheapest_80 : decode prog_3_method_4_code 80 = .ok (.iconst 0, 1) := by decide +kernel
theorem d_Cle_cheapest_81 : decode prog_3_method_4_code 81 = .ok (.istore 6, 2) := by decide +kernel
theorem d_Cle_cheapest_83 : decode prog_3_method_4_code 83 = .ok (.iload 6, 2) := by decide +kernel
theorem d_Cle_cheapest_85 : decode prog_3_method_4_code 85 = .ok (.ifCond .eq 23, 3) := by decide +kernel
theorem d_Cle_cheapest_88 : decode prog_3_method_4_code 88 = .ok (.aload_n 0, 1) := by decide +kernel
theorem d_Cle_cheapest_89 : decode prog_3_method_4_code 89 = .ok (.iload 4, 2) := by decide +kernel
theorem d_Cle_cheapest_91 : decode prog_3_method_4_code 91 = .ok (.invokevirtual 44, 3) := by decide +kernel
theorem d_Cle_cheapest_94 : decode prog_3_method_4_code 94 = .ok (.iload_n 3, 1) := by decide +kernel
theorem d_Cle_cheapest_95 : decode prog_3_method_4_code 95 = .ok (.if_icmp .ge 13, 3) := by decide +kernel
theorem d_Cle_cheapest_98 : decode prog_3_method_4_code 98 = .ok (.iload 4, 2) := by decide +kernel
theorem d_Cle_cheapest_100 : decode prog_3_method_4_code 100 = .ok (.istore_n 2, 1) := by decide +kernel
theorem d_Cle_cheapest_101 : decode prog_3_method_4_code 101 = .ok (.aload_n 0, 1) := by decide +kernel
theorem d_Cle_cheapest_102 : decode prog_3_method_4_code 102 = .ok (.iload 4, 2) := by decide +kernel
theorem d_Cle_cheapest_104 : decode prog_3_method_4_code 104 = .ok (.invokevirtual 44, 3) := by decide +kernel
theorem d_Cle_cheapest_107 : decode prog_3_method_4_code 107 = .ok (.istore_n 3, 1) := by decide +kernel
theorem d_Cle_cheapest_108 : decode prog_3_method_4_code 108 = .ok (.iinc 4 1, 3) := by decide +kernel
theorem d_Cle_cheapest_111 : decode prog_3_method_4_code 111 = .ok (.goto (-102), 3) := by decide +kernel
theorem d_Cle_cheapest_114 : decode prog_3_method_4_code 114 = .ok (.iload_n 2, 1) := by decide +kernel
theorem d_Cle_cheapest_115 : decode prog_3_method_4_code 115 = .ok (.ireturn, 1) := by decide +kernel
set_option maxHeartbeats 4000000 in
set_option maxRecDepth 100000 in
theorem v_Cle_cheapest_108 {p : Program} {l : Launch} {e : Env} {s : State} {m : MethodId} {args : Array Value} {below : List Frame} {meth : Method} {c : Code} {D : va_G} {ad : Nat → Nat} {ca : Nat → ClassId} {A : Nat → Prop} {FU : Nat} {q : Int32} {g : St} (X : FX p s m meth c prog_3_method_4_code 7 (some .int) "FlashFiles$Cleaner" D (tyF ca) A) {k9 : Int32 → Int32 → Int32 → St → Option (Int32)} (hk9 : ∀ (y2 y3 y4 : Int32) (H : Heap) (locs : List Loc) (ls : Array Slot), va_P D cls (wF ad ca g) H → va_D A (wF ad ca g) → va_S A s.heap H locs → lv_has ls 7 [(0, .ref (ad 8)), (2, .int y2), (3, .int y3), (4, .int y4)] → k9 y2 y3 y4 g = some q → W p l e (rmN 3) s m args below meth c H locs 0 0 (MQ below (fxQi D (tyF ca) A (wF ad ca g) q) args s 0 0 A) (F0 m 9 ls [])) {y2 : Int32} {y3 : Int32} {y4 : Int32}  {H : Heap} {locs : List Loc} {ls : Array Slot} (hP : va_P D cls (wF ad ca g) H) (hD : va_D A (wF ad ca g)) (hS : va_S A s.heap H locs) (hl : lv_has ls 7 [(0, .ref (ad 8)), (2, .int y2), (3, .int y3), (4, .int y4)]) (h : Cle_cheapest_b108 FU k9 y2 y3 y4 g = some q) : W p l e (rmN 3) s m args below meth c H locs 0 0 (MQ below (fxQi D (tyF ca) A (wF ad ca g) q) args s 0 0 A) (F0 m 108 ls []) := by
  have hx := X.1
  have hb := X.2.1
  unfold Cle_cheapest_b108 at h
  refine lv_iinc (k := 3) (v := (y4 + (1 : Int32))) hx hb d_Cle_cheapest_108 hl rfl (oi_1 _) (by decide) rfl (fun ls hl => ?_)
  have hl : lv_has ls 7 [(4, .int (y4 + (1 : Int32))), (0, .ref (ad 8)), (2, .int y2), (3, .int y3)] := hl
  refine lv_goto (tgt := 9) hx hb d_Cle_cheapest_111 (by decide) ?_
  exact hk9 _ _ _ _ _ _ hP hD hS (lv_sub hl [1, 2, 3, 0] rfl) h
set_option maxHeartbeats 4000000 in
set_option maxRecDepth 100000 in
theorem v_Cle_cheapest_81 {p : Program} {l : Launch} {e : Env} {s : State} {m : MethodId} {args : Array Value} {below : List Frame} {meth : Method} {c : Code} {D : va_G} {ad : Nat → Nat} {ca : Nat → ClassId} {A : Nat → Prop} {FU : Nat} {q : Int32} {g : St} (X : FX p s m meth c prog_3_method_4_code 7 (some .int) "FlashFiles$Cleaner" D (tyF ca) A) {k9 : Int32 → Int32 → Int32 → St → Option (Int32)} (hk9 : ∀ (y2 y3 y4 : Int32) (H : Heap) (locs : List Loc) (ls : Array Slot), va_P D cls (wF ad ca g) H → va_D A (wF ad ca g) → va_S A s.heap H locs → lv_has ls 7 [(0, .ref (ad 8)), (2, .int y2), (3, .int y3), (4, .int y4)] → k9 y2 y3 y4 g = some q → W p l e (rmN 3) s m args below meth c H locs 0 0 (MQ below (fxQi D (tyF ca) A (wF ad ca g) q) args s 0 0 A) (F0 m 9 ls [])) {y2 : Int32} {y3 : Int32} {y4 : Int32} {z0 : Int32}  {H : Heap} {locs : List Loc} {ls : Array Slot} (hP : va_P D cls (wF ad ca g) H) (hD : va_D A (wF ad ca g)) (hS : va_S A s.heap H locs) (hl : lv_has ls 7 [(0, .ref (ad 8)), (2, .int y2), (3, .int y3), (4, .int y4)]) (h : Cle_cheapest_b81 FU k9 y2 y3 y4 z0 g = some q) : W p l e (rmN 3) s m args below meth c H locs 0 0 (MQ below (fxQi D (tyF ca) A (wF ad ca g) q) args s 0 0 A) (F0 m 81 ls [.int z0]) := by
  have hx := X.1
  have hb := X.2.1
  unfold Cle_cheapest_b81 at h
  refine lv_istore hx hb d_Cle_cheapest_81 hl (by decide) rfl (fun ls hl => ?_)
  have hl : lv_has ls 7 [(6, .int z0), (0, .ref (ad 8)), (2, .int y2), (3, .int y3), (4, .int y4)] := hl
  refine lv_iload hx hb d_Cle_cheapest_83 (lv_at hl 0 rfl) ?_
  refine lv_if_eq (tgt := 108) hx hb d_Cle_cheapest_85 (by decide) (fun hc => ?_) (fun hc => ?_)
  · have h := if_t hc h
    exact v_Cle_cheapest_108 X hk9 hP hD hS (lv_sub hl [1, 2, 3, 4] rfl) h
  · have h := if_f hc h
    refine lv_aload_n hx hb d_Cle_cheapest_88 rfl (lv_at hl 1 rfl) ?_
    refine lv_iload hx hb d_Cle_cheapest_89 (lv_at hl 4 rfl) ?_
    obtain ⟨v1, e1, h⟩ := bd_some h
    refine fx_i X (fx_runV (As := [.int y4]) X (m_Cle_cost e1 _) hP hD kv_Cle_44 ⟨Nat.le_of_ble_eq_true rfl, Nat.le_of_ble_eq_true rfl⟩ 8 rfl rfl rfl hl.1 rfl (Nat.le_of_ble_eq_true rfl) d_Cle_cheapest_91) hD hS (fun H locs hP hD hS => ?_)
    refine lv_iload_n hx hb d_Cle_cheapest_94 rfl (lv_at hl 3 rfl) ?_
    refine lv_icmp_ge (tgt := 108) hx hb d_Cle_cheapest_95 (by decide) (fun hc => ?_) (fun hc => ?_)
    · have h := if_t hc h
      exact v_Cle_cheapest_108 X hk9 hP hD hS (lv_sub hl [1, 2, 3, 4] rfl) h
    · have h := if_f hc h
      refine lv_iload hx hb d_Cle_cheapest_98 (lv_at hl 4 rfl) ?_
      refine lv_istore_n hx hb d_Cle_cheapest_100 rfl hl (by decide) rfl (fun ls hl => ?_)
      have hl : lv_has ls 7 [(2, .int y4), (6, .int z0), (0, .ref (ad 8)), (3, .int y3), (4, .int y4)] := hl
      refine lv_aload_n hx hb d_Cle_cheapest_101 rfl (lv_at hl 2 rfl) ?_
      refine lv_iload hx hb d_Cle_cheapest_102 (lv_at hl 4 rfl) ?_
      obtain ⟨v2, e1, h⟩ := bd_some h
      refine fx_i X (fx_runV (As := [.int y4]) X (m_Cle_cost e1 _) hP hD kv_Cle_44 ⟨Nat.le_of_ble_eq_true rfl, Nat.le_of_ble_eq_true rfl⟩ 8 rfl rfl rfl hl.1 rfl (Nat.le_of_ble_eq_true rfl) d_Cle_cheapest_104) hD hS (fun H locs hP hD hS => ?_)
      refine lv_istore_n hx hb d_Cle_cheapest_107 rfl hl (by decide) rfl (fun ls hl => ?_)
      have hl : lv_has ls 7 [(3, .int v2), (2, .int y4), (6, .int z0), (0, .ref (ad 8)), (4, .int y4)] := hl
      exact v_Cle_cheapest_108 X hk9 hP hD hS (lv_sub hl [3, 1, 0, 4] rfl) h
set_option maxHeartbeats 4000000 in
set_option maxRecDepth 100000 in
theorem v_Cle_cheapest_80 {p : Program} {l : Launch} {e : Env} {s : State} {m : MethodId} {args : Array Value} {below : List Frame} {meth : Method} {c : Code} {D : va_G} {ad : Nat → Nat} {ca : Nat → ClassId} {A : Nat → Prop} {FU : Nat} {q : Int32} {g : St} (X : FX p s m meth c prog_3_method_4_code 7 (some .int) "FlashFiles$Cleaner" D (tyF ca) A) {k9 : Int32 → Int32 → Int32 → St → Option (Int32)} (hk9 : ∀ (y2 y3 y4 : Int32) (H : Heap) (locs : List Loc) (ls : Array Slot), va_P D cls (wF ad ca g) H → va_D A (wF ad ca g) → va_S A s.heap H locs → lv_has ls 7 [(0, .ref (ad 8)), (2, .int y2), (3, .int y3), (4, .int y4)] → k9 y2 y3 y4 g = some q → W p l e (rmN 3) s m args below meth c H locs 0 0 (MQ below (fxQi D (tyF ca) A (wF ad ca g) q) args s 0 0 A) (F0 m 9 ls [])) {y2 : Int32} {y3 : Int32} {y4 : Int32}  {H : Heap} {locs : List Loc} {ls : Array Slot} (hP : va_P D cls (wF ad ca g) H) (hD : va_D A (wF ad ca g)) (hS : va_S A s.heap H locs) (hl : lv_has ls 7 [(0, .ref (ad 8)), (2, .int y2), (3, .int y3), (4, .int y4)]) (h : Cle_cheapest_b80 FU k9 y2 y3 y4 g = some q) : W p l e (rmN 3) s m args below meth c H locs 0 0 (MQ below (fxQi D (tyF ca) A (wF ad ca g) q) args s 0 0 A) (F0 m 80 ls []) := by
  have hx := X.1
  have hb := X.2.1
  unfold Cle_cheapest_b80 at h
  refine lv_iconst (v := 0) hx hb d_Cle_cheapest_80 (by decide) ?_
  exact v_Cle_cheapest_81 X hk9 hP hD hS (lv_sub hl [0, 1, 2, 3] rfl) h
set_option maxHeartbeats 4000000 in
set_option maxRecDepth 100000 in
theorem v_Cle_cheapest_9 {p : Program} {l : Launch} {e : Env} {s : State} {m : MethodId} {args : Array Value} {below : List Frame} {meth : Method} {c : Code} {D : va_G} {ad : Nat → Nat} {ca : Nat → ClassId} {A : Nat → Prop} {FU : Nat} {q : Int32} {g : St} (X : FX p s m meth c prog_3_method_4_code 7 (some .int) "FlashFiles$Cleaner" D (tyF ca) A) : ∀ (n : Nat), ∀ (y2 y3 y4 : Int32) (H : Heap) (locs : List Loc) (ls : Array Slot), va_P D cls (wF ad ca g) H → va_D A (wF ad ca g) → va_S A s.heap H locs → lv_has ls 7 [(0, .ref (ad 8)), (2, .int y2), (3, .int y3), (4, .int y4)] → Cle_cheapest_b9 FU n y2 y3 y4 g = some q → W p l e (rmN 3) s m args below meth c H locs 0 0 (MQ below (fxQi D (tyF ca) A (wF ad ca g) q) args s 0 0 A) (F0 m 9 ls []) := by
  have hx := X.1
  have hb := X.2.1
  intro n
  induction n with
  | zero =>
    intro y2 y3 y4 H locs ls hP hD hS hl h
    cases h
  | succ n ih =>
    intro y2 y3 y4 H locs ls hP hD hS hl h
    have h := h
    rw [Cle_cheapest_b9.eq_2] at h
    refine lv_iload hx hb d_Cle_cheapest_9 (lv_at hl 3 rfl) ?_
    refine lv_aload_n hx hb d_Cle_cheapest_11 rfl (lv_at hl 0 rfl) ?_
    refine gF_cle_log X hP d_Cle_cheapest_12 ?_
    obtain ⟨v3, e1, h⟩ := bd_some h
    refine fx_i X (fx_runV (As := []) X (m_Log_segments e1 _) hP hD kv_Cle_59 ⟨Nat.le_of_ble_eq_true rfl, Nat.le_of_ble_eq_true rfl⟩ 5 rfl rfl rfl hl.1 rfl (Nat.le_of_ble_eq_true rfl) d_Cle_cheapest_15) hD hS (fun H locs hP hD hS => ?_)
    refine lv_icmp_ge (tgt := 114) hx hb d_Cle_cheapest_18 (by decide) (fun hc => ?_) (fun hc => ?_)
    · have h := if_t hc h
      refine lv_iload_n hx hb d_Cle_cheapest_114 rfl (lv_at hl 1 rfl) ?_
      cases h
      exact fx_iret X hP hD hS d_Cle_cheapest_115
    · have h := if_f hc h
      refine lv_aload_n hx hb d_Cle_cheapest_21 rfl (lv_at hl 0 rfl) ?_
      refine gF_cle_log X hP d_Cle_cheapest_22 ?_
      refine lv_iload hx hb d_Cle_cheapest_25 (lv_at hl 3 rfl) ?_
      obtain ⟨v4, e1, h⟩ := bd_some h
      refine fx_i X (fx_runV (As := [.int y4]) X (m_Log_nodesIn e1 _) hP hD kv_Cle_51 ⟨Nat.le_of_ble_eq_true rfl, Nat.le_of_ble_eq_true rfl⟩ 5 rfl rfl rfl hl.1 rfl (Nat.le_of_ble_eq_true rfl) d_Cle_cheapest_27) hD hS (fun H locs hP hD hS => ?_)
      refine lv_aload_n hx hb d_Cle_cheapest_30 rfl (lv_at hl 0 rfl) ?_
      refine gF_cle_log X hP d_Cle_cheapest_31 ?_
      refine lv_iload hx hb d_Cle_cheapest_34 (lv_at hl 3 rfl) ?_
      obtain ⟨v5, e1, h⟩ := bd_some h
      refine fx_i X (fx_runV (As := [.int y4]) X (m_Log_dataIn e1 _) hP hD kv_Cle_56 ⟨Nat.le_of_ble_eq_true rfl, Nat.le_of_ble_eq_true rfl⟩ 5 rfl rfl rfl hl.1 rfl (Nat.le_of_ble_eq_true rfl) d_Cle_cheapest_36) hD hS (fun H locs hP hD hS => ?_)
      refine lv_iadd hx hb d_Cle_cheapest_39 ?_
      refine lv_istore hx hb d_Cle_cheapest_40 hl (by decide) rfl (fun ls hl => ?_)
      have hl : lv_has ls 7 [(5, .int (v4 + v5)), (0, .ref (ad 8)), (2, .int y2), (3, .int y3), (4, .int y4)] := hl
      refine lv_iload hx hb d_Cle_cheapest_42 (lv_at hl 0 rfl) ?_
      refine lv_if_le (tgt := 80) hx hb d_Cle_cheapest_44 (by decide) (fun hc => ?_) (fun hc => ?_)
      · have h := if_t hc h
        exact v_Cle_cheapest_80 X ih hP hD hS (lv_sub hl [1, 2, 3, 4] rfl) h
      · have h := if_f hc h
        refine lv_iload hx hb d_Cle_cheapest_47 (lv_at hl 0 rfl) ?_
        refine lv_bipush (v := 16) hx hb d_Cle_cheapest_49 (by decide) ?_
        refine lv_icmp_ge (tgt := 80) hx hb d_Cle_cheapest_51 (by decide) (fun hc => ?_) (fun hc => ?_)
        · have h := if_t hc h
          exact v_Cle_cheapest_80 X ih hP hD hS (lv_sub hl [1, 2, 3, 4] rfl) h
        · have h := if_f hc h
          refine lv_aload_n hx hb d_Cle_cheapest_54 rfl (lv_at hl 1 rfl) ?_
          refine gF_cle_victims X hP d_Cle_cheapest_55 ?_
          refine lv_iload hx hb d_Cle_cheapest_58 (lv_at hl 4 rfl) ?_
          obtain ⟨v6, e1, h⟩ := bd_some h
          refine rF_19 X hP e1 d_Cle_cheapest_60 ?_
          refine lv_if_ne (tgt := 80) hx hb d_Cle_cheapest_61 (by decide) (fun hc => ?_) (fun hc => ?_)
          · have h := if_f hc h
            exact v_Cle_cheapest_80 X ih hP hD hS (lv_sub hl [1, 2, 3, 4] rfl) h
          · have h := if_t hc h
            refine lv_aload_n hx hb d_Cle_cheapest_64 rfl (lv_at hl 1 rfl) ?_
            refine gF_cle_log X hP d_Cle_cheapest_65 ?_
            refine lv_iload hx hb d_Cle_cheapest_68 (lv_at hl 4 rfl) ?_
            obtain ⟨v7, e1, h⟩ := bd_some h
            refine fx_i X (fx_runV (As := [.int y4]) X (m_Log_isEnd e1 _) hP hD kv_Cle_63 ⟨Nat.le_of_ble_eq_true rfl, Nat.le_of_ble_eq_true rfl⟩ 5 rfl rfl rfl hl.1 rfl (Nat.le_of_ble_eq_true rfl) d_Cle_cheapest_70) hD hS (fun H locs hP hD hS => ?_)
            refine lv_if_ne (tgt := 80) hx hb d_Cle_cheapest_73 (by decide) (fun hc => ?_) (fun hc => ?_)
            · have h := if_f hc h
              exact v_Cle_cheapest_80 X ih hP hD hS (lv_sub hl [1, 2, 3, 4] rfl) h
            · have h := if_t hc h
              refine lv_iconst (v := 1) hx hb d_Cle_cheapest_76 (by decide) ?_
              refine lv_goto (tgt := 81) hx hb d_Cle_cheapest_77 (by decide) ?_
              exact v_Cle_cheapest_81 X ih hP hD hS (lv_sub hl [1, 2, 3, 4] rfl) h
set_option maxHeartbeats 4000000 in
set_option maxRecDepth 100000 in
theorem m_Cle_cheapest {l : Launch} {D : va_G} {ad : Nat → Nat} {ca : Nat → ClassId} {FU : Nat} {x1 : Int32} {g : St} {q : Int32} (h : Cle_cheapest FU x1 g = some q) : CI l ⟨"FlashFiles$Cleaner", "cheapest", "(I)I"⟩ prog_3_method_4_code 7 3 (some .int) D (tyF ca) (wF ad ca g) [.ref (ad 8), .int x1] q (wF ad ca g) := by
  intro sz
  refine Met.fx (Qc := fun A => fxQi D (tyF ca) A (wF ad ca g) q) (by decide) (Nat.le_of_ble_eq_true rfl) ?_
  intro p e s m below meth c A ls X hP hD hl
  have hl : lv_has ls 7 [(0, .ref (ad 8)), (1, .int x1)] := hl
  have hS : va_S A s.heap s.heap [] := va_S.rf
  have hx := X.1
  have hb := X.2.1
  unfold Cle_cheapest at h
  refine lv_iconst (v := -1) hx hb d_Cle_cheapest_0 (by decide) ?_
  refine lv_istore_n hx hb d_Cle_cheapest_1 rfl hl (by decide) rfl (fun ls hl => ?_)
  have hl : lv_has ls 7 [(2, .int (-1 : Int32)), (0, .ref (ad 8)), (1, .int x1)] := hl
  refine lv_iload_n hx hb d_Cle_cheapest_2 rfl (lv_at hl 2 rfl) ?_
  refine lv_iconst (v := 1) hx hb d_Cle_cheapest_3 (by decide) ?_
  refine lv_iadd hx hb d_Cle_cheapest_4 ?_
  refine lv_istore_n hx hb d_Cle_cheapest_5 rfl hl (by decide) rfl (fun ls hl => ?_)
  have hl : lv_has ls 7 [(3, .int (x1 + (1 : Int32))), (2, .int (-1 : Int32)), (0, .ref (ad 8)), (1, .int x1)] := hl
  refine lv_iconst (v := 0) hx hb d_Cle_cheapest_6 (by decide) ?_
  refine lv_istore hx hb d_Cle_cheapest_7 hl (by decide) rfl (fun ls hl => ?_)
  have hl : lv_has ls 7 [(4, .int (0 : Int32)), (3, .int (x1 + (1 : Int32))), (2, .int (-1 : Int32)), (0, .ref (ad 8)), (1, .int x1)] := hl
  exact v_Cle_cheapest_9 X  _ _ _ _ _ _ _ hP hD hS (lv_sub hl [3, 2, 1, 0] rfl) h
theorem d_Cle_mustLeave_0 : decode prog_3_method_5_code 0 = .ok (.iload_n 1, 1) := by decide +kernel
theorem d_Cle_mustLeave_1 : decode prog_3_method_5_code 1 = .ok (.invokestatic 67, 3) := by decide +kernel
theorem d_Cle_mustLeave_4 : decode prog_3_method_5_code 4 = .ok (.istore_n 2, 1) := by decide +kernel
theorem d_Cle_mustLeave_5 : decode prog_3_method_5_code 5 = .ok (.iload_n 2, 1) := by decide +kernel
theorem d_Cle_mustLeave_6 : decode prog_3_method_5_code 6 = .ok (.ifCond .lt 16, 3) := by decide +kernel
theorem d_Cle_mustLeave_9 : decode prog_3_method_5_code 9 = .ok (.aload_n 0, 1) := by decide +kernel
theorem d_Cle_mustLeave_10 : decode prog_3_method_5_code 10 = .ok (.getfield 23, 3) := by decide +kernel
theorem d_Cle_mustLeave_13 : decode prog_3_method_5_code 13 = .ok (.iload_n 2, 1) := by decide +kernel
theorem d_Cle_mustLeave_14 : decode prog_3_method_5_code 14 = .ok (.baload, 1) := by decide +kernel
theorem d_Cle_mustLeave_15 : decode prog_3_method_5_code 15 = .ok (.ifCond .eq 7, 3) := by decide +kernel
theorem d_Cle_mustLeave_18 : decode prog_3_method_5_code 18 = .ok (.iconst 1, 1) := by decide +kernel
theorem d_Cle_mustLeave_19 : decode prog_3_method_5_code 19 = .ok (.goto 4, 3) := by decide +kernel
theorem d_Cle_mustLeave_22 : decode prog_3_method_5_code 22 = .ok (.iconst 0, 1) := by decide +kernel
theorem d_Cle_mustLeave_23 : decode prog_3_method_5_code 23 = .ok (.ireturn, 1) := by decide +kernel
set_option maxHeartbeats 4000000 in
set_option maxRecDepth 100000 in
theorem m_Cle_mustLeave {l : Launch} {D : va_G} {ad : Nat → Nat} {ca : Nat → ClassId} {FU : Nat} {x1 : Int32} {g : St} {q : Int32} (h : Cle_mustLeave FU x1 g = some q) : CI l ⟨"FlashFiles$Cleaner", "mustLeave", "(I)Z"⟩ prog_3_method_5_code 3 2 (some .boolean) D (tyF ca) (wF ad ca g) [.ref (ad 8), .int x1] q (wF ad ca g) := by
  intro sz
  refine Met.fx (Qc := fun A => fxQi D (tyF ca) A (wF ad ca g) q) (by decide) (Nat.le_of_ble_eq_true rfl) ?_
  intro p e s m below meth c A ls X hP hD hl
  have hl : lv_has ls 3 [(0, .ref (ad 8)), (1, .int x1)] := hl
  have hS : va_S A s.heap s.heap [] := va_S.rf
  have hx := X.1
  have hb := X.2.1
  unfold Cle_mustLeave at h
  refine lv_iload_n hx hb d_Cle_mustLeave_0 rfl (lv_at hl 1 rfl) ?_
  obtain ⟨v1, e1, h⟩ := bd_some h
  refine fx_i X (fx_runN X (m_FF_segmentOf e1 _) (As := [.int x1]) hP hD kn_Cle_67 ⟨Nat.le_of_ble_eq_true rfl, Nat.le_of_ble_eq_true rfl⟩ rfl hl.1 rfl (Nat.le_of_ble_eq_true rfl) d_Cle_mustLeave_1) hD hS (fun H locs hP hD hS => ?_)
  refine lv_istore_n hx hb d_Cle_mustLeave_4 rfl hl (by decide) rfl (fun ls hl => ?_)
  have hl : lv_has ls 3 [(2, .int v1), (0, .ref (ad 8)), (1, .int x1)] := hl
  refine lv_iload_n hx hb d_Cle_mustLeave_5 rfl (lv_at hl 0 rfl) ?_
  refine lv_if_lt (tgt := 22) hx hb d_Cle_mustLeave_6 (by decide) (fun hc => ?_) (fun hc => ?_)
  · have h := if_t hc h
    refine lv_iconst (v := 0) hx hb d_Cle_mustLeave_22 (by decide) ?_
    cases h
    exact fx_zret X hP hD hS (Or.inl rfl) d_Cle_mustLeave_23
  · have h := if_f hc h
    refine lv_aload_n hx hb d_Cle_mustLeave_9 rfl (lv_at hl 1 rfl) ?_
    refine gF_cle_victims X hP d_Cle_mustLeave_10 ?_
    refine lv_iload_n hx hb d_Cle_mustLeave_13 rfl (lv_at hl 0 rfl) ?_
    obtain ⟨v2, e1, h⟩ := bd_some h
    refine rF_19 X hP e1 d_Cle_mustLeave_14 ?_
    refine lv_if_eq (tgt := 22) hx hb d_Cle_mustLeave_15 (by decide) (fun hc => ?_) (fun hc => ?_)
    · have h := if_t hc h
      refine lv_iconst (v := 0) hx hb d_Cle_mustLeave_22 (by decide) ?_
      cases h
      exact fx_zret X hP hD hS (Or.inl rfl) d_Cle_mustLeave_23
    · have h := if_f hc h
      refine lv_iconst (v := 1) hx hb d_Cle_mustLeave_18 (by decide) ?_
      refine lv_goto (tgt := 23) hx hb d_Cle_mustLeave_19 (by decide) ?_
      cases h
      exact fx_zret X hP hD hS (Or.inr rfl) d_Cle_mustLeave_23
theorem d_Cle_moveNode_0 : decode prog_3_method_6_code 0 = .ok (.aload_n 0, 1) := by decide +kernel
theorem d_Cle_moveNode_1 : decode prog_3_method_6_code 1 = .ok (.getfield 15, 3) := by decide +kernel
theorem d_Cle_moveNode_4 : decode prog_3_method_6_code 4 = .ok (.iload_n 1, 1) := by decide +kernel
theorem d_Cle_moveNode_5 : decode prog_3_method_6_code 5 = .ok (.invokevirtual 70, 3) := by decide +kernel
theorem d_Cle_moveNode_8 : decode prog_3_method_6_code 8 = .ok (.istore_n 2, 1) := by decide +kernel
theorem d_Cle_moveNode_9 : decode prog_3_method_6_code 9 = .ok (.iload_n 2, 1) := by decide +kernel
theorem d_Cle_moveNode_10 : decode prog_3_method_6_code 10 = .ok (.ifCond .ne 4, 3) := by decide +kernel
theorem d_Cle_moveNode_13 : decode prog_3_method_6_code 13 = .ok (.return_, 1) := by decide +kernel
theorem d_Cle_moveNode_14 : decode prog_3_method_6_code 14 = .ok (.aload_n 0, 1) := by decide +kernel
theorem d_Cle_moveNode_15 : decode prog_3_method_6_code 15 = .ok (.iload_n 2, 1) := by decide +kernel
theorem d_Cle_moveNode_16 : decode prog_3_method_6_code 16 = .ok (.invokevirtual 75, 3) := by decide +kernel
theorem d_Cle_moveNode_19 : decode prog_3_method_6_code 19 = .ok (.istore_n 3, 1) := by decide +kernel
theorem d_Cle_moveNode_20 : decode prog_3_method_6_code 20 = .ok (.aload_n 0, 1) := by decide +kernel
theorem d_Cle_moveNode_21 : decode prog_3_method_6_code 21 = .ok (.getfield 9, 3) := by decide +kernel
theorem d_Cle_moveNode_24 : decode prog_3_method_6_code 24 = .ok (.iload_n 2, 1) := by decide +kernel
theorem d_Cle_moveNode_25 : decode prog_3_method_6_code 25 = .ok (.bipush 58, 2) := by decide +kernel
theorem d_Cle_moveNode_27 : decode prog_3_method_6_code 27 = .ok (.invokevirtual 78, 3) := by decide +kernel
theorem d_Cle_moveNode_30 : decode prog_3_method_6_code 30 = .ok (.istore 4, 2) := by decide +kernel
theorem d_Cle_moveNode_32 : decode prog_3_method_6_code 32 = .ok (.iload 4, 2) := by decide +kernel
theorem d_Cle_moveNode_34 : decode prog_3_method_6_code 34 = .ok (.invokestatic 83, 3) := by decide +kernel
theorem d_Cle_moveNode_37 : decode prog_3_method_6_code 37 = .ok (.istore 5, 2) := by decide +kernel
theorem d_Cle_moveNode_39 : decode prog_3_method_6_code 39 = .ok (.iload 5, 2) := by decide +kernel
theorem d_Cle_moveNode_41 : decode prog_3_method_6_code 41 = .ok (.iload 4, 2) := by decide +kernel
theorem d_Cle_moveNode_43 : decode prog_3_method_6_code 43 = .ok (.aload_n 0, 1) := by decide +kernel
theorem d_Cle_moveNode_44 : decode prog_3_method_6_code 44 = .ok (.getfield 9, 3) := by decide +kernel
theorem d_Cle_moveNode_47 : decode prog_3_method_6_code 47 = .ok (.iload_n 2, 1) := by decide +kernel
theorem d_Cle_moveNode_48 : decode prog_3_method_6_code 48 = .ok (.iconst 0, 1) := by decide +kernel
theorem d_Cle_moveNode_49 : decode prog_3_method_6_code 49 = .ok (.invokevirtual 78, 3) := by decide +kernel
theorem d_Cle_moveNode_52 : decode prog_3_method_6_code 52 = .ok (.invokestatic 86, 3) := by decide +kernel
theorem d_Cle_moveNode_55 : decode prog_3_method_6_code 55 = .ok (.iadd, 1) := by decide +kernel
theorem d_Cle_moveNode_56 : decode prog_3_method_6_code 56 = .ok (.istore 6, 2) := by decide +kernel
theorem d_Cle_moveNode_58 : decode prog_3_method_6_code 58 = .ok (.aload_n 0, 1) := by decide +kernel
theorem d_Cle_moveNode_59 : decode prog_3_method_6_code 59 = .ok (.getfield 9, 3) := by decide +kernel
theorem d_Cle_moveNode_62 : decode prog_3_method_6_code 62 = .ok (.iload_n 2, 1) := by decide +kernel
theorem d_Cle_moveNode_63 : decode prog_3_method_6_code 63 = .ok (.aload_n 0, 1) := by decide +kernel
theorem d_Cle_moveNode_64 : decode prog_3_method_6_code 64 = .ok (.getfield 27, 3) := by decide +kernel
theorem d_Cle_moveNode_67 : decode prog_3_method_6_code 67 = .ok (.invokevirtual 89, 3) := by decide +kernel
theorem d_Cle_moveNode_70 : decode prog_3_method_6_code 70 = .ok (.iload 5, 2) := by decide +kernel
theorem d_Cle_moveNode_72 : decode prog_3_method_6_code 72 = .ok (.istore 7, 2) := by decide +kernel
theorem d_Cle_moveNode_74 : decode prog_3_method_6_code 74 = .ok (.iload 7, 2) := by decide +kernel
theorem d_Cle_moveNode_76 : decode prog_3_method_6_code 76 = .ok (.iload 6, 2) := by decide +kernel
theorem d_Cle_moveNode_78 : decode prog_3_method_6_code 78 = .ok (.if_icmp .ge 85, 3) := by decide +kernel
theorem d_Cle_moveNode_81 : decode prog_3_method_6_code 81 = .ok (.aload_n 0, 1) := by decide +kernel
theorem d_Cle_moveNode_82 : decode prog_3_method_6_code 82 = .ok (.getfield 27, 3) := by decide +kernel
theorem d_Cle_moveNode_85 : decode prog_3_method_6_code 85 = .ok (.iload 7, 2) := by decide +kernel
theorem d_Cle_moveNode_87 : decode prog_3_method_6_code 87 = .ok (.iaload, 1) := by decide +kernel
theorem d_Cle_moveNode_88 : decode prog_3_method_6_code 88 = .ok (.sipush 4095, 3) := by decide +kernel
theorem d_Cle_moveNode_91 : decode prog_3_method_6_code 91 = .ok (.iand, 1) := by decide +kernel
theorem d_Cle_moveNode_92 : decode prog_3_method_6_code 92 = .ok (.istore 8, 2) := by decide +kernel
theorem d_Cle_moveNode_94 : decode prog_3_method_6_code 94 = .ok (.aload_n 0, 1) := by decide +kernel
theorem d_Cle_moveNode_95 : decode prog_3_method_6_code 95 = .ok (.iload 8, 2) := by decide +kernel
theorem d_Cle_moveNode_97 : decode prog_3_method_6_code 97 = .ok (.invokevirtual 75, 3) := by decide +kernel
theorem d_Cle_moveNode_100 : decode prog_3_method_6_code 100 = .ok (.ifCond .eq 57, 3) := by decide +kernel
theorem d_Cle_moveNode_103 : decode prog_3_method_6_code 103 = .ok (.aload_n 0, 1) := by decide +kernel
theorem d_Cle_moveNode_104 : decode prog_3_method_6_code 104 = .ok (.getfield 9, 3) := by decide +kernel
theorem d_Cle_moveNode_107 : decode prog_3_method_6_code 107 = .ok (.iload 8, 2) := by decide +kernel
theorem d_Cle_moveNode_109 : decode prog_3_method_6_code 109 = .ok (.aload_n 0, 1) := by decide +kernel
theorem d_Cle_moveNode_110 : decode prog_3_method_6_code 110 = .ok (.getfield 31, 3) := by decide +kernel
theorem d_Cle_moveNode_113 : decode prog_3_method_6_code 113 = .ok (.invokevirtual 89, 3) := by decide +kernel
theorem d_Cle_moveNode_116 : decode prog_3_method_6_code 116 = .ok (.aload_n 0, 1) := by decide +kernel
theorem d_Cle_moveNode_117 : decode prog_3_method_6_code 117 = .ok (.getfield 19, 3) := by decide +kernel
theorem d_Cle_moveNode_120 : decode prog_3_method_6_code 120 = .ok (.iload 8, 2) := by decide +kernel
theorem d_Cle_moveNode_122 : decode prog_3_method_6_code 122 = .ok (.invokevirtual 93, 3) := by decide +kernel
theorem d_Cle_moveNode_125 : decode prog_3_method_6_code 125 = .ok (.aload_n 0, 1) := by decide +kernel
theorem d_Cle_moveNode_126 : decode prog_3_method_6_code 126 = .ok (.getfield 27, 3) := by decide +kernel
theorem d_Cle_moveNode_129 : decode prog_3_method_6_code 129 = .ok (.iload 7, 2) := by decide +kernel
theorem d_Cle_moveNode_131 : decode prog_3_method_6_code 131 = .ok (.aload_n 0, 1) := by decide +kernel
theorem d_Cle_moveNode_132 : decode prog_3_method_6_code 132 = .ok (.getfield 27, 3) := by decide +kernel
theorem d_Cle_moveNode_135 : decode prog_3_method_6_code 135 = .ok (.iload 7, 2) := by decide +kernel
theorem d_Cle_moveNode_137 : decode prog_3_method_6_code 137 = .ok (.iaload, 1) := by decide +kernel
theorem d_Cle_moveNode_138 : decode prog_3_method_6_code 138 = .ok (.sipush (-4096), 3) := by decide +kernel
theorem d_Cle_moveNode_141 : decode prog_3_method_6_code 141 = .ok (.iand, 1) := by decide +kernel
theorem d_Cle_moveNode_142 : decode prog_3_method_6_code 142 = .ok (.aload_n 0, 1) := by decide +kernel
theorem d_Cle_moveNode_143 : decode prog_3_method_6_code 143 = .ok (.getfield 19, 3) := by decide +kernel
theorem d_Cle_moveNode_146 : decode prog_3_method_6_code 146 = .ok (.aload_n 0, 1) := by decide +kernel
theorem d_Cle_moveNode_147 : decode prog_3_method_6_code 147 = .ok (.getfield 31, 3) := by decide +kernel
theorem d_Cle_moveNode_150 : decode prog_3_method_6_code 150 = .ok (.invokevirtual 96, 3) := by decide +kernel
theorem d_Cle_moveNode_153 : decode prog_3_method_6_code 153 = .ok (.ior, 1) := by decide +kernel
theorem d_Cle_moveNode_154 : decode prog_3_method_6_code 154 = .ok (.iastore, 1) := by decide +kernel
theorem d_Cle_moveNode_155 : decode prog_3_method_6_code 155 = .ok (.iconst 1, 1) := by decide +kernel
theorem d_Cle_moveNode_156 : decode prog_3_method_6_code 156 = .ok (.istore_n 3, 1) := by decide +kernel
theorem d_Cle_moveNode_157 : decode prog_3_method_6_code 157 = .ok (.iinc 7 1, 3) := by decide +kernel
theorem d_Cle_moveNode_160 : decode prog_3_method_6_code 160 = .ok (.goto (-86), 3) := by decide +kernel
theorem d_Cle_moveNode_163 : decode prog_3_method_6_code 163 = .ok (.iload_n 3, 1) := by decide +kernel
theorem d_Cle_moveNode_164 : decode prog_3_method_6_code 164 = .ok (.ifCond .eq 16, 3) := by decide +kernel
theorem d_Cle_moveNode_167 : decode prog_3_method_6_code 167 = .ok (.aload_n 0, 1) := by decide +kernel
theorem d_Cle_moveNode_168 : decode prog_3_method_6_code 168 = .ok (.getfield 19, 3) := by decide +kernel
theorem d_Cle_moveNode_171 : decode prog_3_method_6_code 171 = .ok (.iload_n 1, 1) := by decide +kernel
theorem d_Cle_moveNode_172 : decode prog_3_method_6_code 172 = .ok (.aload_n 0, 1) := by decide +kernel
theorem d_Cle_moveNode_173 : decode prog_3_method_6_code 173 = .ok (.getfield 27, 3) := by decide +kernel
theorem d_Cle_moveNode_176 : decode prog_3_method_6_code 176 = .ok (.iconst 0, 1) := by decide +kernel
theorem d_Cle_moveNode_177 : decode prog_3_method_6_code 177 = .ok (.invokevirtual 100, 3) := by decide +kernel
theorem d_Cle_moveNode_180 : decode prog_3_method_6_code 180 = .ok (.return_, 1) := by decide +kernel
set_option maxHeartbeats 4000000 in
set_option maxRecDepth 100000 in
theorem v_Cle_moveNode_157 {p : Program} {l : Launch} {e : Env} {s : State} {m : MethodId} {args : Array Value} {below : List Frame} {meth : Method} {c : Code} {D : va_G} {ad : Nat → Nat} {ca : Nat → ClassId} {A : Nat → Prop} {FU : Nat} {q : St} (X : FX p s m meth c prog_3_method_6_code 9 none "FlashFiles$Cleaner" D (tyF ca) A) {k74 : Int32 → Int32 → Int32 → Int32 → St → Option (St)} (hk74 : ∀ (y1 y3 y6 y7 : Int32) (g : St) (H : Heap) (locs : List Loc) (ls : Array Slot), va_P D cls (wF ad ca g) H → va_D A (wF ad ca g) → va_S A s.heap H locs → lv_has ls 9 [(0, .ref (ad 8)), (1, .int y1), (3, .int y3), (6, .int y6), (7, .int y7)] → k74 y1 y3 y6 y7 g = some q → W p l e (rmN 4) s m args below meth c H locs 0 0 (MQ below (fxQv D (tyF ca) A (wF ad ca q)) args s 0 0 A) (F0 m 74 ls [])) {y1 : Int32} {y3 : Int32} {y6 : Int32} {y7 : Int32} {g : St} {H : Heap} {locs : List Loc} {ls : Array Slot} (hP : va_P D cls (wF ad ca g) H) (hD : va_D A (wF ad ca g)) (hS : va_S A s.heap H locs) (hl : lv_has ls 9 [(0, .ref (ad 8)), (1, .int y1), (3, .int y3), (6, .int y6), (7, .int y7)]) (h : Cle_moveNode_b157 FU k74 y1 y3 y6 y7 g = some q) : W p l e (rmN 4) s m args below meth c H locs 0 0 (MQ below (fxQv D (tyF ca) A (wF ad ca q)) args s 0 0 A) (F0 m 157 ls []) := by
  have hx := X.1
  have hb := X.2.1
  unfold Cle_moveNode_b157 at h
  refine lv_iinc (k := 4) (v := (y7 + (1 : Int32))) hx hb d_Cle_moveNode_157 hl rfl (oi_1 _) (by decide) rfl (fun ls hl => ?_)
  have hl : lv_has ls 9 [(7, .int (y7 + (1 : Int32))), (0, .ref (ad 8)), (1, .int y1), (3, .int y3), (6, .int y6)] := hl
  refine lv_goto (tgt := 74) hx hb d_Cle_moveNode_160 (by decide) ?_
  exact hk74 _ _ _ _ _ _ _ _ hP hD hS (lv_sub hl [1, 2, 3, 4, 0] rfl) h
set_option maxHeartbeats 4000000 in
set_option maxRecDepth 100000 in
theorem v_Cle_moveNode_74 {p : Program} {l : Launch} {e : Env} {s : State} {m : MethodId} {args : Array Value} {below : List Frame} {meth : Method} {c : Code} {D : va_G} {ad : Nat → Nat} {ca : Nat → ClassId} {A : Nat → Prop} {FU : Nat} {q : St} (X : FX p s m meth c prog_3_method_6_code 9 none "FlashFiles$Cleaner" D (tyF ca) A) : ∀ (n : Nat), ∀ (y1 y3 y6 y7 : Int32) (g : St) (H : Heap) (locs : List Loc) (ls : Array Slot), va_P D cls (wF ad ca g) H → va_D A (wF ad ca g) → va_S A s.heap H locs → lv_has ls 9 [(0, .ref (ad 8)), (1, .int y1), (3, .int y3), (6, .int y6), (7, .int y7)] → Cle_moveNode_b74 FU n y1 y3 y6 y7 g = some q → W p l e (rmN 4) s m args below meth c H locs 0 0 (MQ below (fxQv D (tyF ca) A (wF ad ca q)) args s 0 0 A) (F0 m 74 ls []) := by
  have hx := X.1
  have hb := X.2.1
  intro n
  induction n with
  | zero =>
    intro y1 y3 y6 y7 g H locs ls hP hD hS hl h
    cases h
  | succ n ih =>
    intro y1 y3 y6 y7 g H locs ls hP hD hS hl h
    have h := h
    rw [Cle_moveNode_b74.eq_2] at h
    refine lv_iload hx hb d_Cle_moveNode_74 (lv_at hl 4 rfl) ?_
    refine lv_iload hx hb d_Cle_moveNode_76 (lv_at hl 3 rfl) ?_
    refine lv_icmp_ge (tgt := 163) hx hb d_Cle_moveNode_78 (by decide) (fun hc => ?_) (fun hc => ?_)
    · have h := if_t hc h
      refine lv_iload_n hx hb d_Cle_moveNode_163 rfl (lv_at hl 2 rfl) ?_
      refine lv_if_eq (tgt := 180) hx hb d_Cle_moveNode_164 (by decide) (fun hc => ?_) (fun hc => ?_)
      · have h := if_t hc h
        cases h
        exact fx_vret X hP hD hS d_Cle_moveNode_180
      · have h := if_f hc h
        refine lv_aload_n hx hb d_Cle_moveNode_167 rfl (lv_at hl 0 rfl) ?_
        refine gF_cle_log X hP d_Cle_moveNode_168 ?_
        refine lv_iload_n hx hb d_Cle_moveNode_171 rfl (lv_at hl 1 rfl) ?_
        refine lv_aload_n hx hb d_Cle_moveNode_172 rfl (lv_at hl 0 rfl) ?_
        refine gF_cle_node X hP d_Cle_moveNode_173 ?_
        refine lv_iconst (v := 0) hx hb d_Cle_moveNode_176 (by decide) ?_
        obtain ⟨p1, e1, h⟩ := bd_some h
        refine fx_v X (fx_runV (As := [.int y1, .ref (ad 31), .int (0 : Int32)]) X (m_Log_putNode_20 e1 _) hP hD kv_Cle_100 ⟨Nat.le_of_ble_eq_true rfl, Nat.le_of_ble_eq_true rfl⟩ 5 rfl rfl rfl hl.1 rfl (Nat.le_of_ble_eq_true rfl) d_Cle_moveNode_177) hD hS (fun H locs hP hD hS => ?_)
        cases h
        exact fx_vret X hP hD hS d_Cle_moveNode_180
    · have h := if_f hc h
      refine lv_aload_n hx hb d_Cle_moveNode_81 rfl (lv_at hl 0 rfl) ?_
      refine gF_cle_node X hP d_Cle_moveNode_82 ?_
      refine lv_iload hx hb d_Cle_moveNode_85 (lv_at hl 4 rfl) ?_
      obtain ⟨v2, e1, h⟩ := bd_some h
      refine rF_20 X hP e1 d_Cle_moveNode_87 ?_
      refine lv_sipush (v := 4095) hx hb d_Cle_moveNode_88 (by decide) ?_
      refine lv_iand hx hb d_Cle_moveNode_91 ?_
      refine lv_istore hx hb d_Cle_moveNode_92 hl (by decide) rfl (fun ls hl => ?_)
      have hl : lv_has ls 9 [(8, .int (v2 &&& (4095 : Int32))), (0, .ref (ad 8)), (1, .int y1), (3, .int y3), (6, .int y6), (7, .int y7)] := hl
      refine lv_aload_n hx hb d_Cle_moveNode_94 rfl (lv_at hl 1 rfl) ?_
      refine lv_iload hx hb d_Cle_moveNode_95 (lv_at hl 0 rfl) ?_
      obtain ⟨v3, e1, h⟩ := bd_some h
      refine fx_i X (fx_runV (As := [.int (v2 &&& (4095 : Int32))]) X (m_Cle_mustLeave e1 _) hP hD kv_Cle_75 ⟨Nat.le_of_ble_eq_true rfl, Nat.le_of_ble_eq_true rfl⟩ 8 rfl rfl rfl hl.1 rfl (Nat.le_of_ble_eq_true rfl) d_Cle_moveNode_97) hD hS (fun H locs hP hD hS => ?_)
      refine lv_if_eq (tgt := 157) hx hb d_Cle_moveNode_100 (by decide) (fun hc => ?_) (fun hc => ?_)
      · have h := if_t hc h
        exact v_Cle_moveNode_157 X ih hP hD hS (lv_sub hl [1, 2, 3, 4, 5] rfl) h
      · have h := if_f hc h
        refine lv_aload_n hx hb d_Cle_moveNode_103 rfl (lv_at hl 1 rfl) ?_
        refine gF_cle_device X hP d_Cle_moveNode_104 ?_
        refine lv_iload hx hb d_Cle_moveNode_107 (lv_at hl 0 rfl) ?_
        refine lv_aload_n hx hb d_Cle_moveNode_109 rfl (lv_at hl 1 rfl) ?_
        refine gF_cle_block X hP d_Cle_moveNode_110 ?_
        obtain ⟨p4, e1, h⟩ := bd_some h
        refine fx_v X (fx_runV (As := [.int (v2 &&& (4095 : Int32)), .ref (ad 32)]) X (m_Dev_load_21 e1 _) hP hD kv_Cle_89 ⟨Nat.le_of_ble_eq_true rfl, Nat.le_of_ble_eq_true rfl⟩ 3 rfl rfl rfl hl.1 rfl (Nat.le_of_ble_eq_true rfl) d_Cle_moveNode_113) hD hS (fun H locs hP hD hS => ?_)
        refine lv_aload_n hx hb d_Cle_moveNode_116 rfl (lv_at hl 1 rfl) ?_
        refine gF_cle_log X hP d_Cle_moveNode_117 ?_
        refine lv_iload hx hb d_Cle_moveNode_120 (lv_at hl 0 rfl) ?_
        obtain ⟨p5, e1, h⟩ := bd_some h
        refine fx_v X (fx_runV (As := [.int (v2 &&& (4095 : Int32))]) X (m_Log_drop e1 _) hP hD kv_Cle_93 ⟨Nat.le_of_ble_eq_true rfl, Nat.le_of_ble_eq_true rfl⟩ 5 rfl rfl rfl hl.1 rfl (Nat.le_of_ble_eq_true rfl) d_Cle_moveNode_122) hD hS (fun H locs hP hD hS => ?_)
        refine lv_aload_n hx hb d_Cle_moveNode_125 rfl (lv_at hl 1 rfl) ?_
        refine gF_cle_node X hP d_Cle_moveNode_126 ?_
        refine lv_iload hx hb d_Cle_moveNode_129 (lv_at hl 5 rfl) ?_
        refine lv_aload_n hx hb d_Cle_moveNode_131 rfl (lv_at hl 1 rfl) ?_
        refine gF_cle_node X hP d_Cle_moveNode_132 ?_
        refine lv_iload hx hb d_Cle_moveNode_135 (lv_at hl 5 rfl) ?_
        obtain ⟨v6, e1, h⟩ := bd_some h
        refine rF_20 X hP e1 d_Cle_moveNode_137 ?_
        refine lv_sipush (v := -4096) hx hb d_Cle_moveNode_138 (by decide) ?_
        refine lv_iand hx hb d_Cle_moveNode_141 ?_
        refine lv_aload_n hx hb d_Cle_moveNode_142 rfl (lv_at hl 1 rfl) ?_
        refine gF_cle_log X hP d_Cle_moveNode_143 ?_
        refine lv_aload_n hx hb d_Cle_moveNode_146 rfl (lv_at hl 1 rfl) ?_
        refine gF_cle_block X hP d_Cle_moveNode_147 ?_
        obtain ⟨p7, e1, h⟩ := bd_some h
        refine fx_i X (fx_runV (As := [.ref (ad 32)]) X (m_Log_putData_21 e1 _) hP hD kv_Cle_96 ⟨Nat.le_of_ble_eq_true rfl, Nat.le_of_ble_eq_true rfl⟩ 5 rfl rfl rfl hl.1 rfl (Nat.le_of_ble_eq_true rfl) d_Cle_moveNode_150) hD hS (fun H locs hP hD hS => ?_)
        refine lv_ior hx hb d_Cle_moveNode_153 ?_
        obtain ⟨g8, e1, h⟩ := bd_some h
        refine sF_20 X hP hD hS e1 d_Cle_moveNode_154 (fun H locs hP hD hS => ?_)
        refine lv_iconst (v := 1) hx hb d_Cle_moveNode_155 (by decide) ?_
        refine lv_istore_n hx hb d_Cle_moveNode_156 rfl hl (by decide) rfl (fun ls hl => ?_)
        have hl : lv_has ls 9 [(3, .int (1 : Int32)), (8, .int (v2 &&& (4095 : Int32))), (0, .ref (ad 8)), (1, .int y1), (6, .int y6), (7, .int y7)] := hl
        exact v_Cle_moveNode_157 X ih hP hD hS (lv_sub hl [2, 3, 0, 4, 5] rfl) h
set_option maxHeartbeats 4000000 in
set_option maxRecDepth 100000 in
theorem m_Cle_moveNode {l : Launch} {D : va_G} {ad : Nat → Nat} {ca : Nat → ClassId} {FU : Nat} {x1 : Int32} {g : St} {q : St} (h : Cle_moveNode FU x1 g = some q) : CV l ⟨"FlashFiles$Cleaner", "moveNode", "(I)V"⟩ prog_3_method_6_code 9 4 D (tyF ca) (wF ad ca g) [.ref (ad 8), .int x1] (wF ad ca q) := by
  intro sz
  refine Met.fx (Qc := fun A => fxQv D (tyF ca) A (wF ad ca q)) (by decide) (Nat.le_of_ble_eq_true rfl) ?_
  intro p e s m below meth c A ls X hP hD hl
  have hl : lv_has ls 9 [(0, .ref (ad 8)), (1, .int x1)] := hl
  have hS : va_S A s.heap s.heap [] := va_S.rf
  have hx := X.1
  have hb := X.2.1
  unfold Cle_moveNode at h
  refine lv_aload_n hx hb d_Cle_moveNode_0 rfl (lv_at hl 0 rfl) ?_
  refine gF_cle_table X hP d_Cle_moveNode_1 ?_
  refine lv_iload_n hx hb d_Cle_moveNode_4 rfl (lv_at hl 1 rfl) ?_
  obtain ⟨v9, e1, h⟩ := bd_some h
  refine fx_i X (fx_runV (As := [.int x1]) X (m_Tab_placeOf e1 _) hP hD kv_Cle_70 ⟨Nat.le_of_ble_eq_true rfl, Nat.le_of_ble_eq_true rfl⟩ 4 rfl rfl rfl hl.1 rfl (Nat.le_of_ble_eq_true rfl) d_Cle_moveNode_5) hD hS (fun H locs hP hD hS => ?_)
  refine lv_istore_n hx hb d_Cle_moveNode_8 rfl hl (by decide) rfl (fun ls hl => ?_)
  have hl : lv_has ls 9 [(2, .int v9), (0, .ref (ad 8)), (1, .int x1)] := hl
  refine lv_iload_n hx hb d_Cle_moveNode_9 rfl (lv_at hl 0 rfl) ?_
  refine lv_if_ne (tgt := 14) hx hb d_Cle_moveNode_10 (by decide) (fun hc => ?_) (fun hc => ?_)
  · have h := if_f hc h
    refine lv_aload_n hx hb d_Cle_moveNode_14 rfl (lv_at hl 1 rfl) ?_
    refine lv_iload_n hx hb d_Cle_moveNode_15 rfl (lv_at hl 0 rfl) ?_
    obtain ⟨v10, e1, h⟩ := bd_some h
    refine fx_i X (fx_runV (As := [.int v9]) X (m_Cle_mustLeave e1 _) hP hD kv_Cle_75 ⟨Nat.le_of_ble_eq_true rfl, Nat.le_of_ble_eq_true rfl⟩ 8 rfl rfl rfl hl.1 rfl (Nat.le_of_ble_eq_true rfl) d_Cle_moveNode_16) hD hS (fun H locs hP hD hS => ?_)
    refine lv_istore_n hx hb d_Cle_moveNode_19 rfl hl (by decide) rfl (fun ls hl => ?_)
    have hl : lv_has ls 9 [(3, .int v10), (2, .int v9), (0, .ref (ad 8)), (1, .int x1)] := hl
    refine lv_aload_n hx hb d_Cle_moveNode_20 rfl (lv_at hl 2 rfl) ?_
    refine gF_cle_device X hP d_Cle_moveNode_21 ?_
    refine lv_iload_n hx hb d_Cle_moveNode_24 rfl (lv_at hl 1 rfl) ?_
    refine lv_bipush (v := 58) hx hb d_Cle_moveNode_25 (by decide) ?_
    obtain ⟨v11, e1, h⟩ := bd_some h
    refine fx_i X (fx_runV (As := [.int v9, .int (58 : Int32)]) X (m_Dev_word e1 _) hP hD kv_Cle_78 ⟨Nat.le_of_ble_eq_true rfl, Nat.le_of_ble_eq_true rfl⟩ 3 rfl rfl rfl hl.1 rfl (Nat.le_of_ble_eq_true rfl) d_Cle_moveNode_27) hD hS (fun H locs hP hD hS => ?_)
    refine lv_istore hx hb d_Cle_moveNode_30 hl (by decide) rfl (fun ls hl => ?_)
    have hl : lv_has ls 9 [(4, .int v11), (3, .int v10), (2, .int v9), (0, .ref (ad 8)), (1, .int x1)] := hl
    refine lv_iload hx hb d_Cle_moveNode_32 (lv_at hl 0 rfl) ?_
    obtain ⟨v12, e1, h⟩ := bd_some h
    refine fx_i X (fx_runN X (m_FF_pointersFrom e1 _) (As := [.int v11]) hP hD kn_Cle_83 ⟨Nat.le_of_ble_eq_true rfl, Nat.le_of_ble_eq_true rfl⟩ rfl hl.1 rfl (Nat.le_of_ble_eq_true rfl) d_Cle_moveNode_34) hD hS (fun H locs hP hD hS => ?_)
    refine lv_istore hx hb d_Cle_moveNode_37 hl (by decide) rfl (fun ls hl => ?_)
    have hl : lv_has ls 9 [(5, .int v12), (4, .int v11), (3, .int v10), (2, .int v9), (0, .ref (ad 8)), (1, .int x1)] := hl
    refine lv_iload hx hb d_Cle_moveNode_39 (lv_at hl 0 rfl) ?_
    refine lv_iload hx hb d_Cle_moveNode_41 (lv_at hl 1 rfl) ?_
    refine lv_aload_n hx hb d_Cle_moveNode_43 rfl (lv_at hl 4 rfl) ?_
    refine gF_cle_device X hP d_Cle_moveNode_44 ?_
    refine lv_iload_n hx hb d_Cle_moveNode_47 rfl (lv_at hl 3 rfl) ?_
    refine lv_iconst (v := 0) hx hb d_Cle_moveNode_48 (by decide) ?_
    obtain ⟨v13, e1, h⟩ := bd_some h
    refine fx_i X (fx_runV (As := [.int v9, .int (0 : Int32)]) X (m_Dev_word e1 _) hP hD kv_Cle_78 ⟨Nat.le_of_ble_eq_true rfl, Nat.le_of_ble_eq_true rfl⟩ 3 rfl rfl rfl hl.1 rfl (Nat.le_of_ble_eq_true rfl) d_Cle_moveNode_49) hD hS (fun H locs hP hD hS => ?_)
    obtain ⟨v14, e1, h⟩ := bd_some h
    refine fx_i X (fx_runN X (m_FF_pointersIn e1 _) (As := [.int v11, .int v13]) hP hD kn_Cle_86 ⟨Nat.le_of_ble_eq_true rfl, Nat.le_of_ble_eq_true rfl⟩ rfl hl.1 rfl (Nat.le_of_ble_eq_true rfl) d_Cle_moveNode_52) hD hS (fun H locs hP hD hS => ?_)
    refine lv_iadd hx hb d_Cle_moveNode_55 ?_
    refine lv_istore hx hb d_Cle_moveNode_56 hl (by decide) rfl (fun ls hl => ?_)
    have hl : lv_has ls 9 [(6, .int (v12 + v14)), (5, .int v12), (4, .int v11), (3, .int v10), (2, .int v9), (0, .ref (ad 8)), (1, .int x1)] := hl
    refine lv_aload_n hx hb d_Cle_moveNode_58 rfl (lv_at hl 5 rfl) ?_
    refine gF_cle_device X hP d_Cle_moveNode_59 ?_
    refine lv_iload_n hx hb d_Cle_moveNode_62 rfl (lv_at hl 4 rfl) ?_
    refine lv_aload_n hx hb d_Cle_moveNode_63 rfl (lv_at hl 5 rfl) ?_
    refine gF_cle_node X hP d_Cle_moveNode_64 ?_
    obtain ⟨p15, e1, h⟩ := bd_some h
    refine fx_v X (fx_runV (As := [.int v9, .ref (ad 31)]) X (m_Dev_load_20 e1 _) hP hD kv_Cle_89 ⟨Nat.le_of_ble_eq_true rfl, Nat.le_of_ble_eq_true rfl⟩ 3 rfl rfl rfl hl.1 rfl (Nat.le_of_ble_eq_true rfl) d_Cle_moveNode_67) hD hS (fun H locs hP hD hS => ?_)
    refine lv_iload hx hb d_Cle_moveNode_70 (lv_at hl 1 rfl) ?_
    refine lv_istore hx hb d_Cle_moveNode_72 hl (by decide) rfl (fun ls hl => ?_)
    have hl : lv_has ls 9 [(7, .int v12), (6, .int (v12 + v14)), (5, .int v12), (4, .int v11), (3, .int v10), (2, .int v9), (0, .ref (ad 8)), (1, .int x1)] := hl
    exact v_Cle_moveNode_74 X  _ _ _ _ _ _ _ _ _ hP hD hS (lv_sub hl [6, 7, 4, 1, 0] rfl) h
  · have h := if_t hc h
    cases h
    exact fx_vret X hP hD hS d_Cle_moveNode_13
theorem d_Cle_emptySegments_0 : decode prog_3_method_2_code 0 = .ok (.iload_n 1, 1) := by decide +kernel
theorem d_Cle_emptySegments_1 : decode prog_3_method_2_code 1 = .ok (.istore_n 3, 1) := by decide +kernel
theorem d_Cle_emptySegments_2 : decode prog_3_method_2_code 2 = .ok (.iconst 0, 1) := by decide +kernel
theorem d_Cle_emptySegments_3 : decode prog_3_method_2_code 3 = .ok (.istore 4, 2) := by decide +kernel
theorem d_Cle_emptySegments_5 : decode prog_3_method_2_code 5 = .ok (.iconst 0, 1) := by decide +kernel
theorem d_Cle_emptySegments_6 : decode prog_3_method_2_code 6 = .ok (.istore 5, 2) := by decide +kernel
theorem d_Cle_emptySegments_8 : decode prog_3_method_2_code 8 = .ok (.iload 5, 2) := by decide +kernel
theorem d_Cle_emptySegments_10 : decode prog_3_method_2_code 10 = .ok (.sipush 128, 3) := by decide +kernel
theorem d_Cle_emptySegments_13 : decode prog_3_method_2_code 13 = .ok (.if_icmp .ge 17, 3) := by decide +kernel
theorem d_Cle_emptySegments_16 : decode prog_3_method_2_code 16 = .ok (.aload_n 0, 1) := by decide +kernel
theorem d_Cle_emptySegments_17 : decode prog_3_method_2_code 17 = .ok (.getfield 23, 3) := by decide +kernel
theorem d_Cle_emptySegments_20 : decode prog_3_method_2_code 20 = .ok (.iload 5, 2) := by decide +kernel
theorem d_Cle_emptySegments_22 : decode prog_3_method_2_code 22 = .ok (.iconst 0, 1) := by decide +kernel
theorem d_Cle_emptySegments_23 : decode prog_3_method_2_code 23 = .ok (.bastore, 1) := by decide +kernel
theorem d_Cle_emptySegments_24 : decode prog_3_method_2_code 24 = .ok (.iinc 5 1, 3) := by decide +kernel
theorem d_Cle_emptySegments_27 : decode prog_3_method_2_code 27 = .ok (.goto (-19), 3) := by decide +kernel
theorem d_Cle_emptySegments_30 : decode prog_3_method_2_code 30 = .ok (.iconst 0, 1) := by decide +kernel
theorem d_Cle_emptySegments_31 : decode prog_3_method_2_code 31 = .ok (.istore 5, 2) := by decide +kernel
theorem d_Cle_emptySegments_33 : decode prog_3_method_2_code 33 = .ok (.iload 5, 2) := by decide +kernel
theorem d_Cle_emptySegments_35 : decode prog_3_method_2_code 35 = .ok (.sipush 128, 3) := by decide +kernel
theorem d_Cle_emptySegments_38 : decode prog_3_method_2_code 38 = .ok (.if_icmp .ge 48, 3) := by decide +kernel
theorem d_Cle_emptySegments_41 : decode prog_3_method_2_code 41 = .ok (.aload_n 0, 1) := by decide +kernel
theorem d_Cle_emptySegments_42 : decode prog_3_method_2_code 42 = .ok (.iload_n 3, 1) := by decide +kernel
theorem d_Cle_emptySegments_43 : decode prog_3_method_2_code 43 = .ok (.iload_n 2, 1) := by decide +kernel
theorem d_Cle_emptySegments_44 : decode prog_3_method_2_code 44 = .ok (.invokestatic 34, 3) := by decide +kernel
theorem d_Cle_emptySegments_47 : decode prog_3_method_2_code 47 = .ok (.invokevirtual 40, 3) := by decide +kernel
theorem d_Cle_emptySegments_50 : decode prog_3_method_2_code 50 = .ok (.istore 6, 2) := by decide +kernel
theorem d_Cle_emptySegments_52 : decode prog_3_method_2_code 52 = .ok (.iload 6, 2) := by decide +kernel
theorem d_Cle_emptySegments_54 : decode prog_3_method_2_code 54 = .ok (.ifCond .ge 6, 3) := by decide +kernel
theorem d_Cle_emptySegments_57 : decode prog_3_method_2_code 57 = .ok (.goto 29, 3) := by decide +kernel
theorem d_Cle_emptySegments_60 : decode prog_3_method_2_code 60 = .ok (.aload_n 0, 1) := by decide +kernel
theorem d_Cle_emptySegments_61 : decode prog_3_method_2_code 61 = .ok (.getfield 23, 3) := by decide +kernel
theorem d_Cle_emptySegments_64 : decode prog_3_method_2_code 64 = .ok (.iload 6, 2) := by decide +kernel
theorem d_Cle_emptySegments_66 : decode prog_3_method_2_code 66 = .ok (.iconst 1, 1) := by decide +kernel
theorem d_Cle_emptySegments_67 : decode prog_3_method_2_code 67 = .ok (.bastore, 1) := by decide +kernel
theorem d_Cle_emptySegments_68 : decode prog_3_method_2_code 68 = .ok (.iload_n 3, 1) := by decide +kernel
theorem d_Cle_emptySegments_69 : decode prog_3_method_2_code 69 = .ok (.aload_n 0, 1) := by decide +kernel
theorem d_Cle_emptySegments_70 : decode prog_3_method_2_code 70 = .ok (.iload 6, 2) := by decide +kernel
theorem d_Cle_emptySegments_72 : decode prog_3_method_2_code 72 = .ok (.invokevirtual 44, 3) := by decide +kernel
theorem d_Cle_emptySegments_75 : decode prog_3_method_2_code 75 = .ok (.isub, 1) := by decide +kernel
theorem d_Cle_emptySegments_76 : decode prog_3_method_2_code 76 = .ok (.istore_n 3, 1) := by decide +kernel
theorem d_Cle_emptySegments_77 : decode prog_3_method_2_code 77 = .ok (.iconst 1, 1) := by decide +kernel
theorem d_Cle_emptySegments_78 : decode prog_3_method_2_code 78 = .ok (.istore 4, 2) := by decide +kernel
theorem d_Cle_emptySegments_80 : decode prog_3_method_2_code 80 = .ok (.iinc 5 1, 3) := by decide +kernel
theorem d_Cle_emptySegments_83 : decode prog_3_method_2_code 83 = .ok (.goto (-50), 3) := by decide +kernel
theorem d_Cle_emptySegments_86 : decode prog_3_method_2_code 86 = .ok (.iconst 1, 1) := by decide +kernel
theorem d_Cle_emptySegments_87 : decode prog_3_method_2_code 87 = .ok (.istore 5, 2) := by decide +kernel
theorem d_Cle_emptySegments_89 : decode prog_3_method_2_code 89 = .ok (.iload 4, 2) := by decide +kernel
theorem d_Cle_emptySegments_91 : decode prog_3_method_2_code 91 = .ok (.ifCond .eq 23, 3) := by decide +kernel
theorem d_Cle_emptySegments_94 : decode prog_3_method_2_code 94 = .ok (.iload 5, 2) := by decide +kernel
theorem d_Cle_emptySegments_96 : decode prog_3_method_2_code 96 = .ok (.sipush 2048, 3) := by decide +kernel
theorem d_Cle_emptySegments_99 : decode prog_3_method_2_code 99 = .ok (.if_icmp .ge 15, 3) := by decide +kernel
theorem d_Cle_emptySegments_102 : decode prog_3_method_2_code 102 = .ok (.aload_n 0, 1) := by decide +kernel
theorem d_Cle_emptySegments_103 : decode prog_3_method_2_code 103 = .ok (.iload 5, 2) := by decide +kernel
theorem d_Cle_emptySegments_105 : decode prog_3_method_2_code 105 = .ok (.invokevirtual 47, 3) := by decide +kernel
theorem d_Cle_emptySegments_108 : decode prog_3_method_2_code 108 = .ok (.iinc 5 1, 3) := by decide +kernel
theorem d_Cle_emptySegments_111 : decode prog_3_method_2_code 111 = .ok (.goto (-22), 3) := by decide +kernel
theorem d_Cle_emptySegments_114 : decode prog_3_method_2_code 114 = .ok (.iload 4, 2) := by decide +kernel
theorem d_Cle_emptySegments_116 : decode prog_3_method_2_code 116 = .ok (.ireturn, 1) := by decide +kernel
set_option maxHeartbeats 4000000 in
set_option maxRecDepth 100000 in
theorem v_Cle_emptySegments_89 {p : Program} {l : Launch} {e : Env} {s : State} {m : MethodId} {args : Array Value} {below : List Frame} {meth : Method} {c : Code} {D : va_G} {ad : Nat → Nat} {ca : Nat → ClassId} {A : Nat → Prop} {FU : Nat} {q : Int32 × St} (X : FX p s m meth c prog_3_method_2_code 7 (some .boolean) "FlashFiles$Cleaner" D (tyF ca) A) : ∀ (n : Nat), ∀ (y4 y5 : Int32) (g : St) (H : Heap) (locs : List Loc) (ls : Array Slot), va_P D cls (wF ad ca g) H → va_D A (wF ad ca g) → va_S A s.heap H locs → lv_has ls 7 [(0, .ref (ad 8)), (4, .int y4), (5, .int y5)] → Cle_emptySegments_b89 FU n y4 y5 g = some q → W p l e (rmN 5) s m args below meth c H locs 0 0 (MQ below (fxQi D (tyF ca) A (wF ad ca q.2) q.1) args s 0 0 A) (F0 m 89 ls []) := by
  have hx := X.1
  have hb := X.2.1
  intro n
  induction n with
  | zero =>
    intro y4 y5 g H locs ls hP hD hS hl h
    cases h
  | succ n ih =>
    intro y4 y5 g H locs ls hP hD hS hl h
    have h := h
    rw [Cle_emptySegments_b89.eq_2] at h
    refine lv_iload hx hb d_Cle_emptySegments_89 (lv_at hl 1 rfl) ?_
    refine lv_if_eq (tgt := 114) hx hb d_Cle_emptySegments_91 (by decide) (fun hc => ?_) (fun hc => ?_)
    · have h := if_t hc h
      refine lv_iload hx hb d_Cle_emptySegments_114 (lv_at hl 1 rfl) ?_
      obtain ⟨hz, h⟩ | ⟨hz, h⟩ := if_some h
      rotate_left
      · cases h
      cases h
      exact fx_zret X hP hD hS hz d_Cle_emptySegments_116
    · have h := if_f hc h
      refine lv_iload hx hb d_Cle_emptySegments_94 (lv_at hl 2 rfl) ?_
      refine lv_sipush (v := 2048) hx hb d_Cle_emptySegments_96 (by decide) ?_
      refine lv_icmp_ge (tgt := 114) hx hb d_Cle_emptySegments_99 (by decide) (fun hc => ?_) (fun hc => ?_)
      · have h := if_t hc h
        refine lv_iload hx hb d_Cle_emptySegments_114 (lv_at hl 1 rfl) ?_
        obtain ⟨hz, h⟩ | ⟨hz, h⟩ := if_some h
        rotate_left
        · cases h
        cases h
        exact fx_zret X hP hD hS hz d_Cle_emptySegments_116
      · have h := if_f hc h
        refine lv_aload_n hx hb d_Cle_emptySegments_102 rfl (lv_at hl 0 rfl) ?_
        refine lv_iload hx hb d_Cle_emptySegments_103 (lv_at hl 2 rfl) ?_
        obtain ⟨p1, e1, h⟩ := bd_some h
        refine fx_v X (fx_runV (As := [.int y5]) X (m_Cle_moveNode e1 _) hP hD kv_Cle_47 ⟨Nat.le_of_ble_eq_true rfl, Nat.le_of_ble_eq_true rfl⟩ 8 rfl rfl rfl hl.1 rfl (Nat.le_of_ble_eq_true rfl) d_Cle_emptySegments_105) hD hS (fun H locs hP hD hS => ?_)
        refine lv_iinc (k := 2) (v := (y5 + (1 : Int32))) hx hb d_Cle_emptySegments_108 hl rfl (oi_1 _) (by decide) rfl (fun ls hl => ?_)
        have hl : lv_has ls 7 [(5, .int (y5 + (1 : Int32))), (0, .ref (ad 8)), (4, .int y4)] := hl
        refine lv_goto (tgt := 89) hx hb d_Cle_emptySegments_111 (by decide) ?_
        exact ih _ _ _ _ _ _ hP hD hS (lv_sub hl [1, 2, 0] rfl) h
set_option maxHeartbeats 4000000 in
set_option maxRecDepth 100000 in
theorem v_Cle_emptySegments_86 {p : Program} {l : Launch} {e : Env} {s : State} {m : MethodId} {args : Array Value} {below : List Frame} {meth : Method} {c : Code} {D : va_G} {ad : Nat → Nat} {ca : Nat → ClassId} {A : Nat → Prop} {FU : Nat} {q : Int32 × St} (X : FX p s m meth c prog_3_method_2_code 7 (some .boolean) "FlashFiles$Cleaner" D (tyF ca) A) {y4 : Int32} {g : St} {H : Heap} {locs : List Loc} {ls : Array Slot} (hP : va_P D cls (wF ad ca g) H) (hD : va_D A (wF ad ca g)) (hS : va_S A s.heap H locs) (hl : lv_has ls 7 [(0, .ref (ad 8)), (4, .int y4)]) (h : Cle_emptySegments_b86 FU y4 g = some q) : W p l e (rmN 5) s m args below meth c H locs 0 0 (MQ below (fxQi D (tyF ca) A (wF ad ca q.2) q.1) args s 0 0 A) (F0 m 86 ls []) := by
  have hx := X.1
  have hb := X.2.1
  unfold Cle_emptySegments_b86 at h
  refine lv_iconst (v := 1) hx hb d_Cle_emptySegments_86 (by decide) ?_
  refine lv_istore hx hb d_Cle_emptySegments_87 hl (by decide) rfl (fun ls hl => ?_)
  have hl : lv_has ls 7 [(5, .int (1 : Int32)), (0, .ref (ad 8)), (4, .int y4)] := hl
  exact v_Cle_emptySegments_89 X  _ _ _ _ _ _ _ hP hD hS (lv_sub hl [1, 2, 0] rfl) h
set_option maxHeartbeats 4000000 in
set_option maxRecDepth 100000 in
theorem v_Cle_emptySegments_33 {p : Program} {l : Launch} {e : Env} {s : State} {m : MethodId} {args : Array Value} {below : List Frame} {meth : Method} {c : Code} {D : va_G} {ad : Nat → Nat} {ca : Nat → ClassId} {A : Nat → Prop} {FU : Nat} {q : Int32 × St} (X : FX p s m meth c prog_3_method_2_code 7 (some .boolean) "FlashFiles$Cleaner" D (tyF ca) A) : ∀ (n : Nat), ∀ (y2 y3 y4 y5 : Int32) (g : St) (H : Heap) (locs : List Loc) (ls : Array Slot), va_P D cls (wF ad ca g) H → va_D A (wF ad ca g) → va_S A s.heap H locs → lv_has ls 7 [(0, .ref (ad 8)), (2, .int y2), (3, .int y3), (4, .int y4), (5, .int y5)] → Cle_emptySegments_b33 FU n y2 y3 y4 y5 g = some q → W p l e (rmN 5) s m args below meth c H locs 0 0 (MQ below (fxQi D (tyF ca) A (wF ad ca q.2) q.1) args s 0 0 A) (F0 m 33 ls []) := by
  have hx := X.1
  have hb := X.2.1
  intro n
  induction n with
  | zero =>
    intro y2 y3 y4 y5 g H locs ls hP hD hS hl h
    cases h
  | succ n ih =>
    intro y2 y3 y4 y5 g H locs ls hP hD hS hl h
    have h := h
    rw [Cle_emptySegments_b33.eq_2] at h
    refine lv_iload hx hb d_Cle_emptySegments_33 (lv_at hl 4 rfl) ?_
    refine lv_sipush (v := 128) hx hb d_Cle_emptySegments_35 (by decide) ?_
    refine lv_icmp_ge (tgt := 86) hx hb d_Cle_emptySegments_38 (by decide) (fun hc => ?_) (fun hc => ?_)
    · have h := if_t hc h
      exact v_Cle_emptySegments_86 X  hP hD hS (lv_sub hl [0, 3] rfl) h
    · have h := if_f hc h
      refine lv_aload_n hx hb d_Cle_emptySegments_41 rfl (lv_at hl 0 rfl) ?_
      refine lv_iload_n hx hb d_Cle_emptySegments_42 rfl (lv_at hl 2 rfl) ?_
      refine lv_iload_n hx hb d_Cle_emptySegments_43 rfl (lv_at hl 1 rfl) ?_
      refine va_mmin hx hb (X.2.2.1.trans hl.1.symm) X.2.2.2.2.2.1 (X.2.2.2.2.2.2.1.use q4_152) (X.2.2.2.2.2.2.1.use q2_193) (X.2.2.2.2.2.2.1.use q1_16) (X.2.2.2.2.2.2.1.use math_min) (Nat.le_of_ble_eq_true rfl) (Nat.le_of_ble_eq_true rfl) (Nat.zero_le _) (Nat.zero_le _) d_Cle_emptySegments_44 ?_
      obtain ⟨v2, e1, h⟩ := bd_some h
      refine fx_i X (fx_runV (As := [.int (if y2 < y3 then y2 else y3)]) X (m_Cle_cheapest e1 _) hP hD kv_Cle_40 ⟨Nat.le_of_ble_eq_true rfl, Nat.le_of_ble_eq_true rfl⟩ 8 rfl rfl rfl hl.1 rfl (Nat.le_of_ble_eq_true rfl) d_Cle_emptySegments_47) hD hS (fun H locs hP hD hS => ?_)
      refine lv_istore hx hb d_Cle_emptySegments_50 hl (by decide) rfl (fun ls hl => ?_)
      have hl : lv_has ls 7 [(6, .int v2), (0, .ref (ad 8)), (2, .int y2), (3, .int y3), (4, .int y4), (5, .int y5)] := hl
      refine lv_iload hx hb d_Cle_emptySegments_52 (lv_at hl 0 rfl) ?_
      refine lv_if_ge (tgt := 60) hx hb d_Cle_emptySegments_54 (by decide) (fun hc => ?_) (fun hc => ?_)
      · have h := if_t hc h
        refine lv_aload_n hx hb d_Cle_emptySegments_60 rfl (lv_at hl 1 rfl) ?_
        refine gF_cle_victims X hP d_Cle_emptySegments_61 ?_
        refine lv_iload hx hb d_Cle_emptySegments_64 (lv_at hl 0 rfl) ?_
        refine lv_iconst (v := 1) hx hb d_Cle_emptySegments_66 (by decide) ?_
        obtain ⟨g3, e1, h⟩ := bd_some h
        refine sF_19 X hP hD hS e1 d_Cle_emptySegments_67 (fun H locs hP hD hS => ?_)
        refine lv_iload_n hx hb d_Cle_emptySegments_68 rfl (lv_at hl 3 rfl) ?_
        refine lv_aload_n hx hb d_Cle_emptySegments_69 rfl (lv_at hl 1 rfl) ?_
        refine lv_iload hx hb d_Cle_emptySegments_70 (lv_at hl 0 rfl) ?_
        obtain ⟨v4, e1, h⟩ := bd_some h
        refine fx_i X (fx_runV (As := [.int v2]) X (m_Cle_cost e1 _) hP hD kv_Cle_44 ⟨Nat.le_of_ble_eq_true rfl, Nat.le_of_ble_eq_true rfl⟩ 8 rfl rfl rfl hl.1 rfl (Nat.le_of_ble_eq_true rfl) d_Cle_emptySegments_72) hD hS (fun H locs hP hD hS => ?_)
        refine lv_isub hx hb d_Cle_emptySegments_75 ?_
        refine lv_istore_n hx hb d_Cle_emptySegments_76 rfl hl (by decide) rfl (fun ls hl => ?_)
        have hl : lv_has ls 7 [(3, .int (y3 - v4)), (6, .int v2), (0, .ref (ad 8)), (2, .int y2), (4, .int y4), (5, .int y5)] := hl
        refine lv_iconst (v := 1) hx hb d_Cle_emptySegments_77 (by decide) ?_
        refine lv_istore hx hb d_Cle_emptySegments_78 hl (by decide) rfl (fun ls hl => ?_)
        have hl : lv_has ls 7 [(4, .int (1 : Int32)), (3, .int (y3 - v4)), (6, .int v2), (0, .ref (ad 8)), (2, .int y2), (5, .int y5)] := hl
        refine lv_iinc (k := 5) (v := (y5 + (1 : Int32))) hx hb d_Cle_emptySegments_80 hl rfl (oi_1 _) (by decide) rfl (fun ls hl => ?_)
        have hl : lv_has ls 7 [(5, .int (y5 + (1 : Int32))), (4, .int (1 : Int32)), (3, .int (y3 - v4)), (6, .int v2), (0, .ref (ad 8)), (2, .int y2)] := hl
        refine lv_goto (tgt := 33) hx hb d_Cle_emptySegments_83 (by decide) ?_
        exact ih _ _ _ _ _ _ _ _ hP hD hS (lv_sub hl [4, 5, 2, 1, 0] rfl) h
      · have h := if_f hc h
        refine lv_goto (tgt := 86) hx hb d_Cle_emptySegments_57 (by decide) ?_
        exact v_Cle_emptySegments_86 X  hP hD hS (lv_sub hl [1, 4] rfl) h
set_option maxHeartbeats 4000000 in
set_option maxRecDepth 100000 in
theorem v_Cle_emptySegments_8 {p : Program} {l : Launch} {e : Env} {s : State} {m : MethodId} {args : Array Value} {below : List Frame} {meth : Method} {c : Code} {D : va_G} {ad : Nat → Nat} {ca : Nat → ClassId} {A : Nat → Prop} {FU : Nat} {q : Int32 × St} (X : FX p s m meth c prog_3_method_2_code 7 (some .boolean) "FlashFiles$Cleaner" D (tyF ca) A) : ∀ (n : Nat), ∀ (y2 y3 y4 y5 : Int32) (g : St) (H : Heap) (locs : List Loc) (ls : Array Slot), va_P D cls (wF ad ca g) H → va_D A (wF ad ca g) → va_S A s.heap H locs → lv_has ls 7 [(0, .ref (ad 8)), (2, .int y2), (3, .int y3), (4, .int y4), (5, .int y5)] → Cle_emptySegments_b8 FU n y2 y3 y4 y5 g = some q → W p l e (rmN 5) s m args below meth c H locs 0 0 (MQ below (fxQi D (tyF ca) A (wF ad ca q.2) q.1) args s 0 0 A) (F0 m 8 ls []) := by
  have hx := X.1
  have hb := X.2.1
  intro n
  induction n with
  | zero =>
    intro y2 y3 y4 y5 g H locs ls hP hD hS hl h
    cases h
  | succ n ih =>
    intro y2 y3 y4 y5 g H locs ls hP hD hS hl h
    have h := h
    rw [Cle_emptySegments_b8.eq_2] at h
    refine lv_iload hx hb d_Cle_emptySegments_8 (lv_at hl 4 rfl) ?_
    refine lv_sipush (v := 128) hx hb d_Cle_emptySegments_10 (by decide) ?_
    refine lv_icmp_ge (tgt := 30) hx hb d_Cle_emptySegments_13 (by decide) (fun hc => ?_) (fun hc => ?_)
    · have h := if_t hc h
      refine lv_iconst (v := 0) hx hb d_Cle_emptySegments_30 (by decide) ?_
      refine lv_istore hx hb d_Cle_emptySegments_31 hl (by decide) rfl (fun ls hl => ?_)
      have hl : lv_has ls 7 [(5, .int (0 : Int32)), (0, .ref (ad 8)), (2, .int y2), (3, .int y3), (4, .int y4)] := hl
      exact v_Cle_emptySegments_33 X  _ _ _ _ _ _ _ _ _ hP hD hS (lv_sub hl [1, 2, 3, 4, 0] rfl) h
    · have h := if_f hc h
      refine lv_aload_n hx hb d_Cle_emptySegments_16 rfl (lv_at hl 0 rfl) ?_
      refine gF_cle_victims X hP d_Cle_emptySegments_17 ?_
      refine lv_iload hx hb d_Cle_emptySegments_20 (lv_at hl 4 rfl) ?_
      refine lv_iconst (v := 0) hx hb d_Cle_emptySegments_22 (by decide) ?_
      obtain ⟨g5, e1, h⟩ := bd_some h
      refine sF_19 X hP hD hS e1 d_Cle_emptySegments_23 (fun H locs hP hD hS => ?_)
      refine lv_iinc (k := 4) (v := (y5 + (1 : Int32))) hx hb d_Cle_emptySegments_24 hl rfl (oi_1 _) (by decide) rfl (fun ls hl => ?_)
      have hl : lv_has ls 7 [(5, .int (y5 + (1 : Int32))), (0, .ref (ad 8)), (2, .int y2), (3, .int y3), (4, .int y4)] := hl
      refine lv_goto (tgt := 8) hx hb d_Cle_emptySegments_27 (by decide) ?_
      exact ih _ _ _ _ _ _ _ _ hP hD hS (lv_sub hl [1, 2, 3, 4, 0] rfl) h
set_option maxHeartbeats 4000000 in
set_option maxRecDepth 100000 in
theorem m_Cle_emptySegments {l : Launch} {D : va_G} {ad : Nat → Nat} {ca : Nat → ClassId} {FU : Nat} {x1 : Int32} {x2 : Int32} {g : St} {q : Int32 × St} (h : Cle_emptySegments FU x1 x2 g = some q) : CI l ⟨"FlashFiles$Cleaner", "emptySegments", "(II)Z"⟩ prog_3_method_2_code 7 5 (some .boolean) D (tyF ca) (wF ad ca g) [.ref (ad 8), .int x1, .int x2] q.1 (wF ad ca q.2) := by
  intro sz
  refine Met.fx (Qc := fun A => fxQi D (tyF ca) A (wF ad ca q.2) q.1) (by decide) (Nat.le_of_ble_eq_true rfl) ?_
  intro p e s m below meth c A ls X hP hD hl
  have hl : lv_has ls 7 [(0, .ref (ad 8)), (1, .int x1), (2, .int x2)] := hl
  have hS : va_S A s.heap s.heap [] := va_S.rf
  have hx := X.1
  have hb := X.2.1
  unfold Cle_emptySegments at h
  refine lv_iload_n hx hb d_Cle_emptySegments_0 rfl (lv_at hl 1 rfl) ?_
  refine lv_istore_n hx hb d_Cle_emptySegments_1 rfl hl (by decide) rfl (fun ls hl => ?_)
  have hl : lv_has ls 7 [(3, .int x1), (0, .ref (ad 8)), (1, .int x1), (2, .int x2)] := hl
  refine lv_iconst (v := 0) hx hb d_Cle_emptySegments_2 (by decide) ?_
  refine lv_istore hx hb d_Cle_emptySegments_3 hl (by decide) rfl (fun ls hl => ?_)
  have hl : lv_has ls 7 [(4, .int (0 : Int32)), (3, .int x1), (0, .ref (ad 8)), (1, .int x1), (2, .int x2)] := hl
  refine lv_iconst (v := 0) hx hb d_Cle_emptySegments_5 (by decide) ?_
  refine lv_istore hx hb d_Cle_emptySegments_6 hl (by decide) rfl (fun ls hl => ?_)
  have hl : lv_has ls 7 [(5, .int (0 : Int32)), (4, .int (0 : Int32)), (3, .int x1), (0, .ref (ad 8)), (1, .int x1), (2, .int x2)] := hl
  exact v_Cle_emptySegments_8 X  _ _ _ _ _ _ _ _ _ hP hD hS (lv_sub hl [3, 5, 2, 1, 0] rfl) h
