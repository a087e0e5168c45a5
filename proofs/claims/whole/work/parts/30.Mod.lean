theorem d_Mod_thrown_0 : decode prog_12_method_2_code 0 = .ok (.aload_n 0, 1) := by decide +kernel
theorem d_Mod_thrown_1 : decode prog_12_method_2_code 1 = .ok (.getfield 76, 3) := by decide +kernel
theorem d_Mod_thrown_4 : decode prog_12_method_2_code 4 = .ok (.ireturn, 1) := by decide +kernel
set_option maxHeartbeats 4000000 in
set_option maxRecDepth 100000 in
theorem m_Mod_thrown {l : Launch} {D : va_G} {ad : Nat → Nat} {ca : Nat → ClassId} {FU : Nat} {g : St} {q : Int32} (h : Mod_thrown FU  g = some q) : CI l ⟨"FlashFilesModel", "thrown", "()I"⟩ prog_12_method_2_code 1 1 (some .int) D (tyM ca) (wM ad ca g) [.ref (ad 0)] q (wM ad ca g) := by
  intro sz
  refine Met.fx (Qc := fun A => fxQi D (tyM ca) A (wM ad ca g) q) (by decide) (Nat.le_of_ble_eq_true rfl) ?_
  intro p e s m below meth c A ls X hP hD hl
  have hl : lv_has ls 1 [(0, .ref (ad 0))] := hl
  have hS : va_S A s.heap s.heap [] := va_S.rf
  have hx := X.1
  have hb := X.2.1
  unfold Mod_thrown at h
  refine lv_aload_n hx hb d_Mod_thrown_0 rfl (lv_at hl 0 rfl) ?_
  refine gM_mod_thrown X hP d_Mod_thrown_1 ?_
  cases h
  exact fx_iret X hP hD hS d_Mod_thrown_4
theorem d_Mod_throwing_0 : decode prog_12_method_3_code 0 = .ok (.aload_n 0, 1) := by decide +kernel
theorem d_Mod_throwing_1 : decode prog_12_method_3_code 1 = .ok (.iload_n 1, 1) := by decide +kernel
theorem d_Mod_throwing_2 : decode prog_12_method_3_code 2 = .ok (.ifCond .eq 7, 3) := by decide +kernel
theorem d_Mod_throwing_5 : decode prog_12_method_3_code 5 = .ok (.iconst 1, 1) := by decide +kernel
theorem d_Mod_throwing_6 : decode prog_12_method_3_code 6 = .ok (.goto 12, 3) := by decide +kernel
theorem d_Mod_throwing_9 : decode prog_12_method_3_code 9 = .ok (.iload_n 2, 1) := by decide +kernel
theorem d_Mod_throwing_10 : decode prog_12_method_3_code 10 = .ok (.ifCond .eq 7, 3) := by decide +kernel
theorem d_Mod_throwing_13 : decode prog_12_method_3_code 13 = .ok (.iconst 2, 1) := by decide +kernel
theorem d_Mod_throwing_14 : decode prog_12_method_3_code 14 = .ok (.goto 4, 3) := by decide +kernel
theorem d_Mod_throwing_17 : decode prog_12_method_3_code 17 = .ok (.iconst 0, 1) := by decide +kernel
theorem d_Mod_throwing_18 : decode prog_12_method_3_code 18 = .ok (.putfield 76, 3) := by decide +kernel
theorem d_Mod_throwing_21 : decode prog_12_method_3_code 21 = .ok (.aload_n 0, 1) := by decide +kernel
theorem d_Mod_throwing_22 : decode prog_12_method_3_code 22 = .ok (.getfield 76, 3) := by decide +kernel
theorem d_Mod_throwing_25 : decode prog_12_method_3_code 25 = .ok (.ifCond .le 7, 3) := by decide +kernel
theorem d_Mod_throwing_28 : decode prog_12_method_3_code 28 = .ok (.iconst 1, 1) := by decide +kernel
theorem d_Mod_throwing_29 : decode prog_12_method_3_code 29 = .ok (.goto 4, 3) := by decide +kernel
theorem d_Mod_throwing_32 : decode prog_12_method_3_code 32 = .ok (.iconst 0, 1) := by decide +kernel
theorem d_Mod_throwing_33 : decode prog_12_method_3_code 33 = .ok (.ireturn, 1) := by decide +kernel
set_option maxHeartbeats 4000000 in
set_option maxRecDepth 100000 in
theorem v_Mod_throwing_18 {p : Program} {l : Launch} {e : Env} {s : State} {m : MethodId} {args : Array Value} {below : List Frame} {meth : Method} {c : Code} {D : va_G} {ad : Nat → Nat} {ca : Nat → ClassId} {A : Nat → Prop} {FU : Nat} {q : Int32 × St} (X : FX p s m meth c prog_12_method_3_code 3 (some .boolean) "FlashFilesModel" D (tyM ca) A) {z0 : Int32} {g : St} {H : Heap} {locs : List Loc} {ls : Array Slot} (hP : va_P D cls (wM ad ca g) H) (hD : va_D A (wM ad ca g)) (hS : va_S A s.heap H locs) (hl : lv_has ls 3 [(0, .ref (ad 0))]) (h : Mod_throwing_b18 FU z0 g = some q) : W p l e (rmN 1) s m args below meth c H locs 0 0 (MQ below (fxQi D (tyM ca) A (wM ad ca q.2) q.1) args s 0 0 A) (F0 m 18 ls [.int z0, .ref (ad 0)]) := by
  have hx := X.1
  have hb := X.2.1
  unfold Mod_throwing_b18 at h
  obtain ⟨g1, e1, h⟩ := nx_some h
  refine uM_mod_thrown X hP hD hS e1 d_Mod_throwing_18 (fun H locs hP hD hS => ?_)
  refine lv_aload_n hx hb d_Mod_throwing_21 rfl (lv_at hl 0 rfl) ?_
  refine gM_mod_thrown X hP d_Mod_throwing_22 ?_
  refine lv_if_le (tgt := 32) hx hb d_Mod_throwing_25 (by decide) (fun hc => ?_) (fun hc => ?_)
  · have h := if_t hc h
    refine lv_iconst (v := 0) hx hb d_Mod_throwing_32 (by decide) ?_
    cases h
    exact fx_zret X hP hD hS (Or.inl rfl) d_Mod_throwing_33
  · have h := if_f hc h
    refine lv_iconst (v := 1) hx hb d_Mod_throwing_28 (by decide) ?_
    refine lv_goto (tgt := 33) hx hb d_Mod_throwing_29 (by decide) ?_
    cases h
    exact fx_zret X hP hD hS (Or.inr rfl) d_Mod_throwing_33
set_option maxHeartbeats 4000000 in
set_option maxRecDepth 100000 in
theorem m_Mod_throwing {l : Launch} {D : va_G} {ad : Nat → Nat} {ca : Nat → ClassId} {FU : Nat} {x1 : Int32} {x2 : Int32} {g : St} {q : Int32 × St} (h : Mod_throwing FU x1 x2 g = some q) : CI l ⟨"FlashFilesModel", "throwing", "(ZZ)Z"⟩ prog_12_method_3_code 3 1 (some .boolean) D (tyM ca) (wM ad ca g) [.ref (ad 0), .int x1, .int x2] q.1 (wM ad ca q.2) := by
  intro sz
  refine Met.fx (Qc := fun A => fxQi D (tyM ca) A (wM ad ca q.2) q.1) (by decide) (Nat.le_of_ble_eq_true rfl) ?_
  intro p e s m below meth c A ls X hP hD hl
  have hl : lv_has ls 3 [(0, .ref (ad 0)), (1, .int x1), (2, .int x2)] := hl
  have hS : va_S A s.heap s.heap [] := va_S.rf
  have hx := X.1
  have hb := X.2.1
  unfold Mod_throwing at h
  refine lv_aload_n hx hb d_Mod_throwing_0 rfl (lv_at hl 0 rfl) ?_
  refine lv_iload_n hx hb d_Mod_throwing_1 rfl (lv_at hl 1 rfl) ?_
  refine lv_if_eq (tgt := 9) hx hb d_Mod_throwing_2 (by decide) (fun hc => ?_) (fun hc => ?_)
  · have h := if_t hc h
    refine lv_iload_n hx hb d_Mod_throwing_9 rfl (lv_at hl 2 rfl) ?_
    refine lv_if_eq (tgt := 17) hx hb d_Mod_throwing_10 (by decide) (fun hc => ?_) (fun hc => ?_)
    · have h := if_t hc h
      refine lv_iconst (v := 0) hx hb d_Mod_throwing_17 (by decide) ?_
      exact v_Mod_throwing_18 X  hP hD hS (lv_sub hl [0] rfl) h
    · have h := if_f hc h
      refine lv_iconst (v := 2) hx hb d_Mod_throwing_13 (by decide) ?_
      refine lv_goto (tgt := 18) hx hb d_Mod_throwing_14 (by decide) ?_
      exact v_Mod_throwing_18 X  hP hD hS (lv_sub hl [0] rfl) h
  · have h := if_f hc h
    refine lv_iconst (v := 1) hx hb d_Mod_throwing_5 (by decide) ?_
    refine lv_goto (tgt := 18) hx hb d_Mod_throwing_6 (by decide) ?_
    exact v_Mod_throwing_18 X  hP hD hS (lv_sub hl [0] rfl) h
theorem d_Mod_in_0 : decode prog_12_method_4_code 0 = .ok (.iload_n 0, 1) := by decide +kernel
theorem d_Mod_in_1 : decode prog_12_method_4_code 1 = .ok (.iload_n 1, 1) := by decide +kernel
theorem d_Mod_in_2 : decode prog_12_method_4_code 2 = .ok (.if_icmp .lt 12, 3) := by decide +kernel
theorem d_Mod_in_5 : decode prog_12_method_4_code 5 = .ok (.iload_n 0, 1) := by decide +kernel
theorem d_Mod_in_6 : decode prog_12_method_4_code 6 = .ok (.iload_n 2, 1) := by decide +kernel
theorem d_Mod_in_7 : decode prog_12_method_4_code 7 = .ok (.if_icmp .gt 7, 3) := by decide +kernel
theorem d_Mod_in_10 : decode prog_12_method_4_code 10 = .ok (.iconst 1, 1) := by decide +kernel
theorem d_Mod_in_11 : decode prog_12_method_4_code 11 = .ok (.goto 4, 3) := by decide +kernel
theorem d_Mod_in_14 : decode prog_12_method_4_code 14 = .ok (.iconst 0, 1) := by decide +kernel
theorem d_Mod_in_15 : decode prog_12_method_4_code 15 = .ok (.ireturn, 1) := by decide +kernel
set_option maxHeartbeats 4000000 in
set_option maxRecDepth 100000 in
theorem m_Mod_in {l : Launch} {D : va_G} {ad : Nat → Nat} {ca : Nat → ClassId} {FU : Nat} {x0 : Int32} {x1 : Int32} {x2 : Int32} {g : St} {q : Int32} (h : Mod_in FU x0 x1 x2 g = some q) : CI l ⟨"FlashFilesModel", "in", "(III)Z"⟩ prog_12_method_4_code 3 1 (some .boolean) D (tyM ca) (wM ad ca g) [.int x0, .int x1, .int x2] q (wM ad ca g) := by
  intro sz
  refine Met.fx (Qc := fun A => fxQi D (tyM ca) A (wM ad ca g) q) (by decide) (Nat.le_of_ble_eq_true rfl) ?_
  intro p e s m below meth c A ls X hP hD hl
  have hl : lv_has ls 3 [(0, .int x0), (1, .int x1), (2, .int x2)] := hl
  have hS : va_S A s.heap s.heap [] := va_S.rf
  have hx := X.1
  have hb := X.2.1
  unfold Mod_in at h
  refine lv_iload_n hx hb d_Mod_in_0 rfl (lv_at hl 0 rfl) ?_
  refine lv_iload_n hx hb d_Mod_in_1 rfl (lv_at hl 1 rfl) ?_
  refine lv_icmp_lt (tgt := 14) hx hb d_Mod_in_2 (by decide) (fun hc => ?_) (fun hc => ?_)
  · have h := if_t hc h
    refine lv_iconst (v := 0) hx hb d_Mod_in_14 (by decide) ?_
    cases h
    exact fx_zret X hP hD hS (Or.inl rfl) d_Mod_in_15
  · have h := if_f hc h
    refine lv_iload_n hx hb d_Mod_in_5 rfl (lv_at hl 0 rfl) ?_
    refine lv_iload_n hx hb d_Mod_in_6 rfl (lv_at hl 2 rfl) ?_
    refine lv_icmp_gt (tgt := 14) hx hb d_Mod_in_7 (by decide) (fun hc => ?_) (fun hc => ?_)
    · have h := if_t hc h
      refine lv_iconst (v := 0) hx hb d_Mod_in_14 (by decide) ?_
      cases h
      exact fx_zret X hP hD hS (Or.inl rfl) d_Mod_in_15
    · have h := if_f hc h
      refine lv_iconst (v := 1) hx hb d_Mod_in_10 (by decide) ?_
      refine lv_goto (tgt := 15) hx hb d_Mod_in_11 (by decide) ?_
      cases h
      exact fx_zret X hP hD hS (Or.inr rfl) d_Mod_in_15
theorem d_Mod_at_0 : decode prog_12_method_5_code 0 = .ok (.sipush 251, 3) := by decide +kernel
theorem d_Mod_at_3 : decode prog_12_method_5_code 3 = .ok (.iload_n 0, 1) := by decide +kernel
theorem d_Mod_at_4 : decode prog_12_method_5_code 4 = .ok (.imul, 1) := by decide +kernel
theorem d_Mod_at_5 : decode prog_12_method_5_code 5 = .ok (.iload_n 1, 1) := by decide +kernel
theorem d_Mod_at_6 : decode prog_12_method_5_code 6 = .ok (.iadd, 1) := by decide +kernel
theorem d_Mod_at_7 : decode prog_12_method_5_code 7 = .ok (.sipush 391, 3) := by decide +kernel
theorem d_Mod_at_10 : decode prog_12_method_5_code 10 = .ok (.imul, 1) := by decide +kernel
theorem d_Mod_at_11 : decode prog_12_method_5_code 11 = .ok (.iload_n 2, 1) := by decide +kernel
theorem d_Mod_at_12 : decode prog_12_method_5_code 12 = .ok (.iadd, 1) := by decide +kernel
theorem d_Mod_at_13 : decode prog_12_method_5_code 13 = .ok (.ireturn, 1) := by decide +kernel
set_option maxHeartbeats 4000000 in
set_option maxRecDepth 100000 in
theorem m_Mod_at {l : Launch} {D : va_G} {ad : Nat → Nat} {ca : Nat → ClassId} {FU : Nat} {x0 : Int32} {x1 : Int32} {x2 : Int32} {g : St} {q : Int32} (h : Mod_at FU x0 x1 x2 g = some q) : CI l ⟨"FlashFilesModel", "at", "(III)I"⟩ prog_12_method_5_code 3 1 (some .int) D (tyM ca) (wM ad ca g) [.int x0, .int x1, .int x2] q (wM ad ca g) := by
  intro sz
  refine Met.fx (Qc := fun A => fxQi D (tyM ca) A (wM ad ca g) q) (by decide) (Nat.le_of_ble_eq_true rfl) ?_
  intro p e s m below meth c A ls X hP hD hl
  have hl : lv_has ls 3 [(0, .int x0), (1, .int x1), (2, .int x2)] := hl
  have hS : va_S A s.heap s.heap [] := va_S.rf
  have hx := X.1
  have hb := X.2.1
  unfold Mod_at at h
  refine lv_sipush (v := 251) hx hb d_Mod_at_0 (by decide) ?_
  refine lv_iload_n hx hb d_Mod_at_3 rfl (lv_at hl 0 rfl) ?_
  refine lv_imul hx hb d_Mod_at_4 ?_
  refine lv_iload_n hx hb d_Mod_at_5 rfl (lv_at hl 1 rfl) ?_
  refine lv_iadd hx hb d_Mod_at_6 ?_
  refine lv_sipush (v := 391) hx hb d_Mod_at_7 (by decide) ?_
  refine lv_imul hx hb d_Mod_at_10 ?_
  refine lv_iload_n hx hb d_Mod_at_11 rfl (lv_at hl 2 rfl) ?_
  refine lv_iadd hx hb d_Mod_at_12 ?_
  cases h
  exact fx_iret X hP hD hS d_Mod_at_13
theorem d_Mod_take_0 : decode prog_12_method_6_code 0 = .ok (.aload_n 0, 1) := by decide +kernel
theorem d_Mod_take_1 : decode prog_12_method_6_code 1 = .ok (.getfield 48, 3) := by decide +kernel
theorem d_Mod_take_4 : decode prog_12_method_6_code 4 = .ok (.aload_n 0, 1) := by decide +kernel
theorem d_Mod_take_5 : decode prog_12_method_6_code 5 = .ok (.getfield 79, 3) := by decide +kernel
theorem d_Mod_take_8 : decode prog_12_method_6_code 8 = .ok (.iaload, 1) := by decide +kernel
theorem d_Mod_take_9 : decode prog_12_method_6_code 9 = .ok (.ifCond .le 32, 3) := by decide +kernel
theorem d_Mod_take_12 : decode prog_12_method_6_code 12 = .ok (.aload_n 0, 1) := by decide +kernel
theorem d_Mod_take_13 : decode prog_12_method_6_code 13 = .ok (.aload_n 0, 1) := by decide +kernel
theorem d_Mod_take_14 : decode prog_12_method_6_code 14 = .ok (.getfield 79, 3) := by decide +kernel
theorem d_Mod_take_17 : decode prog_12_method_6_code 17 = .ok (.iconst 1, 1) := by decide +kernel
theorem d_Mod_take_18 : decode prog_12_method_6_code 18 = .ok (.iadd, 1) := by decide +kernel
theorem d_Mod_take_19 : decode prog_12_method_6_code 19 = .ok (.sipush 6600, 3) := by decide +kernel
theorem d_Mod_take_22 : decode prog_12_method_6_code 22 = .ok (.if_icmp .ne 7, 3) := by decide +kernel
theorem d_Mod_take_25 : decode prog_12_method_6_code 25 = .ok (.iconst 0, 1) := by decide +kernel
theorem d_Mod_take_26 : decode prog_12_method_6_code 26 = .ok (.goto 9, 3) := by decide +kernel
theorem d_Mod_take_29 : decode prog_12_method_6_code 29 = .ok (.aload_n 0, 1) := by decide +kernel
theorem d_Mod_take_30 : decode prog_12_method_6_code 30 = .ok (.getfield 79, 3) := by decide +kernel
theorem d_Mod_take_33 : decode prog_12_method_6_code 33 = .ok (.iconst 1, 1) := by decide +kernel
theorem d_Mod_take_34 : decode prog_12_method_6_code 34 = .ok (.iadd, 1) := by decide +kernel
theorem d_Mod_take_35 : decode prog_12_method_6_code 35 = .ok (.putfield 79, 3) := by decide +kernel
theorem d_Mod_take_38 : decode prog_12_method_6_code 38 = .ok (.goto (-38), 3) := by decide +kernel
theorem d_Mod_take_41 : decode prog_12_method_6_code 41 = .ok (.aload_n 0, 1) := by decide +kernel
theorem d_Mod_take_42 : decode prog_12_method_6_code 42 = .ok (.getfield 48, 3) := by decide +kernel
theorem d_Mod_take_45 : decode prog_12_method_6_code 45 = .ok (.aload_n 0, 1) := by decide +kernel
theorem d_Mod_take_46 : decode prog_12_method_6_code 46 = .ok (.getfield 79, 3) := by decide +kernel
theorem d_Mod_take_49 : decode prog_12_method_6_code 49 = .ok (.iconst 1, 1) := by decide +kernel
theorem d_Mod_take_50 : decode prog_12_method_6_code 50 = .ok (.iastore, 1) := by decide +kernel
theorem d_Mod_take_51 : decode prog_12_method_6_code 51 = .ok (.iconst 0, 1) := by decide +kernel
theorem d_Mod_take_52 : decode prog_12_method_6_code 52 = .ok (.istore_n 1, 1) := by decide +kernel
theorem d_Mod_take_53 : decode prog_12_method_6_code 53 = .ok (.iload_n 1, 1) := by decide +kernel
theorem d_Mod_take_54 : decode prog_12_method_6_code 54 = .ok (.sipush 256, 3) := by decide +kernel
theorem d_Mod_take_57 : decode prog_12_method_6_code 57 = .ok (.if_icmp .ge 25, 3) := by decide +kernel
theorem d_Mod_take_60 : decode prog_12_method_6_code 60 = .ok (.aload_n 0, 1) := by decide +kernel
theorem d_Mod_take_61 : decode prog_12_method_6_code 61 = .ok (.getfield 45, 3) := by decide +kernel
theorem d_Mod_take_64 : decode prog_12_method_6_code 64 = .ok (.sipush 256, 3) := by decide +kernel
theorem d_Mod_take_67 : decode prog_12_method_6_code 67 = .ok (.aload_n 0, 1) := by decide +kernel
theorem d_Mod_take_68 : decode prog_12_method_6_code 68 = .ok (.getfield 79, 3) := by decide +kernel
theorem d_Mod_take_71 : decode prog_12_method_6_code 71 = .ok (.imul, 1) := by decide +kernel
theorem d_Mod_take_72 : decode prog_12_method_6_code 72 = .ok (.iload_n 1, 1) := by decide +kernel
theorem d_Mod_take_73 : decode prog_12_method_6_code 73 = .ok (.iadd, 1) := by decide +kernel
theorem d_Mod_take_74 : decode prog_12_method_6_code 74 = .ok (.iconst 0, 1) := by decide +kernel
theorem d_Mod_take_75 : decode prog_12_method_6_code 75 = .ok (.bastore, 1) := by decide +kernel
theorem d_Mod_take_76 : decode prog_12_method_6_code 76 = .ok (.iinc 1 1, 3) := by decide +kernel
theorem d_Mod_take_79 : decode prog_12_method_6_code 79 = .ok (.goto (-26), 3) := by decide +kernel
theorem d_Mod_take_82 : decode prog_12_method_6_code 82 = .ok (.aload_n 0, 1) := by decide +kernel
theorem d_Mod_take_83 : decode prog_12_method_6_code 83 = .ok (.getfield 79, 3) := by decide +kernel
theorem d_Mod_take_86 : decode prog_12_method_6_code 86 = .ok (.ireturn, 1) := by decide +kernel
set_option maxHeartbeats 4000000 in
set_option maxRecDepth 100000 in
theorem v_Mod_take_53 {p : Program} {l : Launch} {e : Env} {s : State} {m : MethodId} {args : Array Value} {below : List Frame} {meth : Method} {c : Code} {D : va_G} {ad : Nat → Nat} {ca : Nat → ClassId} {A : Nat → Prop} {FU : Nat} {q : Int32 × St} (X : FX p s m meth c prog_12_method_6_code 2 (some .int) "FlashFilesModel" D (tyM ca) A) : ∀ (n : Nat), ∀ (y1 : Int32) (g : St) (H : Heap) (locs : List Loc) (ls : Array Slot), va_P D cls (wM ad ca g) H → va_D A (wM ad ca g) → va_S A s.heap H locs → lv_has ls 2 [(0, .ref (ad 0)), (1, .int y1)] → Mod_take_b53 FU n y1 g = some q → W p l e (rmN 1) s m args below meth c H locs 0 0 (MQ below (fxQi D (tyM ca) A (wM ad ca q.2) q.1) args s 0 0 A) (F0 m 53 ls []) := by
  have hx := X.1
  have hb := X.2.1
  intro n
  induction n with
  | zero =>
    intro y1 g H locs ls hP hD hS hl h
    cases h
  | succ n ih =>
    intro y1 g H locs ls hP hD hS hl h
    have h := h
    rw [Mod_take_b53.eq_2] at h
    refine lv_iload_n hx hb d_Mod_take_53 rfl (lv_at hl 1 rfl) ?_
    refine lv_sipush (v := 256) hx hb d_Mod_take_54 (by decide) ?_
    refine lv_icmp_ge (tgt := 82) hx hb d_Mod_take_57 (by decide) (fun hc => ?_) (fun hc => ?_)
    · have h := if_t hc h
      refine lv_aload_n hx hb d_Mod_take_82 rfl (lv_at hl 0 rfl) ?_
      refine gM_mod_search X hP d_Mod_take_83 ?_
      cases h
      exact fx_iret X hP hD hS d_Mod_take_86
    · have h := if_f hc h
      refine lv_aload_n hx hb d_Mod_take_60 rfl (lv_at hl 0 rfl) ?_
      refine gM_mod_pool X hP d_Mod_take_61 ?_
      refine lv_sipush (v := 256) hx hb d_Mod_take_64 (by decide) ?_
      refine lv_aload_n hx hb d_Mod_take_67 rfl (lv_at hl 0 rfl) ?_
      refine gM_mod_search X hP d_Mod_take_68 ?_
      refine lv_imul hx hb d_Mod_take_71 ?_
      refine lv_iload_n hx hb d_Mod_take_72 rfl (lv_at hl 1 rfl) ?_
      refine lv_iadd hx hb d_Mod_take_73 ?_
      refine lv_iconst (v := 0) hx hb d_Mod_take_74 (by decide) ?_
      obtain ⟨g1, e1, h⟩ := bd_some h
      refine sM_9 X hP hD hS e1 d_Mod_take_75 (fun H locs hP hD hS => ?_)
      refine lv_iinc (k := 1) (v := (y1 + (1 : Int32))) hx hb d_Mod_take_76 hl rfl (oi_1 _) (by decide) rfl (fun ls hl => ?_)
      have hl : lv_has ls 2 [(1, .int (y1 + (1 : Int32))), (0, .ref (ad 0))] := hl
      refine lv_goto (tgt := 53) hx hb d_Mod_take_79 (by decide) ?_
      exact ih _ _ _ _ _ hP hD hS (lv_sub hl [1, 0] rfl) h
set_option maxHeartbeats 4000000 in
set_option maxRecDepth 100000 in
theorem v_Mod_take_35 {p : Program} {l : Launch} {e : Env} {s : State} {m : MethodId} {args : Array Value} {below : List Frame} {meth : Method} {c : Code} {D : va_G} {ad : Nat → Nat} {ca : Nat → ClassId} {A : Nat → Prop} {FU : Nat} {q : Int32 × St} (X : FX p s m meth c prog_12_method_6_code 2 (some .int) "FlashFilesModel" D (tyM ca) A) {k0 : St → Option (Int32 × St)} (hk0 : ∀ (g : St) (H : Heap) (locs : List Loc) (ls : Array Slot), va_P D cls (wM ad ca g) H → va_D A (wM ad ca g) → va_S A s.heap H locs → lv_has ls 2 [(0, .ref (ad 0))] → k0  g = some q → W p l e (rmN 1) s m args below meth c H locs 0 0 (MQ below (fxQi D (tyM ca) A (wM ad ca q.2) q.1) args s 0 0 A) (F0 m 0 ls [])) {z0 : Int32} {g : St} {H : Heap} {locs : List Loc} {ls : Array Slot} (hP : va_P D cls (wM ad ca g) H) (hD : va_D A (wM ad ca g)) (hS : va_S A s.heap H locs) (hl : lv_has ls 2 [(0, .ref (ad 0))]) (h : Mod_take_b35 FU k0 z0 g = some q) : W p l e (rmN 1) s m args below meth c H locs 0 0 (MQ below (fxQi D (tyM ca) A (wM ad ca q.2) q.1) args s 0 0 A) (F0 m 35 ls [.int z0, .ref (ad 0)]) := by
  have hx := X.1
  have hb := X.2.1
  unfold Mod_take_b35 at h
  obtain ⟨g2, e1, h⟩ := nx_some h
  refine uM_mod_search X hP hD hS e1 d_Mod_take_35 (fun H locs hP hD hS => ?_)
  refine lv_goto (tgt := 0) hx hb d_Mod_take_38 (by decide) ?_
  exact hk0 _ _ _ _ hP hD hS (lv_sub hl [0] rfl) h
set_option maxHeartbeats 4000000 in
set_option maxRecDepth 100000 in
theorem v_Mod_take_0 {p : Program} {l : Launch} {e : Env} {s : State} {m : MethodId} {args : Array Value} {below : List Frame} {meth : Method} {c : Code} {D : va_G} {ad : Nat → Nat} {ca : Nat → ClassId} {A : Nat → Prop} {FU : Nat} {q : Int32 × St} (X : FX p s m meth c prog_12_method_6_code 2 (some .int) "FlashFilesModel" D (tyM ca) A) : ∀ (n : Nat), ∀ (g : St) (H : Heap) (locs : List Loc) (ls : Array Slot), va_P D cls (wM ad ca g) H → va_D A (wM ad ca g) → va_S A s.heap H locs → lv_has ls 2 [(0, .ref (ad 0))] → Mod_take_b0 FU n g = some q → W p l e (rmN 1) s m args below meth c H locs 0 0 (MQ below (fxQi D (tyM ca) A (wM ad ca q.2) q.1) args s 0 0 A) (F0 m 0 ls []) := by
  have hx := X.1
  have hb := X.2.1
  intro n
  induction n with
  | zero =>
    intro g H locs ls hP hD hS hl h
    cases h
  | succ n ih =>
    intro g H locs ls hP hD hS hl h
    have h := h
    rw [Mod_take_b0.eq_2] at h
    refine lv_aload_n hx hb d_Mod_take_0 rfl (lv_at hl 0 rfl) ?_
    refine gM_mod_owners X hP d_Mod_take_1 ?_
    refine lv_aload_n hx hb d_Mod_take_4 rfl (lv_at hl 0 rfl) ?_
    refine gM_mod_search X hP d_Mod_take_5 ?_
    obtain ⟨v3, e1, h⟩ := bd_some h
    refine rM_10 X hP e1 d_Mod_take_8 ?_
    refine lv_if_le (tgt := 41) hx hb d_Mod_take_9 (by decide) (fun hc => ?_) (fun hc => ?_)
    · have h := if_t hc h
      refine lv_aload_n hx hb d_Mod_take_41 rfl (lv_at hl 0 rfl) ?_
      refine gM_mod_owners X hP d_Mod_take_42 ?_
      refine lv_aload_n hx hb d_Mod_take_45 rfl (lv_at hl 0 rfl) ?_
      refine gM_mod_search X hP d_Mod_take_46 ?_
      refine lv_iconst (v := 1) hx hb d_Mod_take_49 (by decide) ?_
      obtain ⟨g4, e1, h⟩ := bd_some h
      refine sM_10 X hP hD hS e1 d_Mod_take_50 (fun H locs hP hD hS => ?_)
      refine lv_iconst (v := 0) hx hb d_Mod_take_51 (by decide) ?_
      refine lv_istore_n hx hb d_Mod_take_52 rfl hl (by decide) rfl (fun ls hl => ?_)
      have hl : lv_has ls 2 [(1, .int (0 : Int32)), (0, .ref (ad 0))] := hl
      exact v_Mod_take_53 X  _ _ _ _ _ _ hP hD hS (lv_sub hl [1, 0] rfl) h
    · have h := if_f hc h
      refine lv_aload_n hx hb d_Mod_take_12 rfl (lv_at hl 0 rfl) ?_
      refine lv_aload_n hx hb d_Mod_take_13 rfl (lv_at hl 0 rfl) ?_
      refine gM_mod_search X hP d_Mod_take_14 ?_
      refine lv_iconst (v := 1) hx hb d_Mod_take_17 (by decide) ?_
      refine lv_iadd hx hb d_Mod_take_18 ?_
      refine lv_sipush (v := 6600) hx hb d_Mod_take_19 (by decide) ?_
      refine lv_icmp_ne (tgt := 29) hx hb d_Mod_take_22 (by decide) (fun hc => ?_) (fun hc => ?_)
      · have h := if_f hc h
        refine lv_aload_n hx hb d_Mod_take_29 rfl (lv_at hl 0 rfl) ?_
        refine gM_mod_search X hP d_Mod_take_30 ?_
        refine lv_iconst (v := 1) hx hb d_Mod_take_33 (by decide) ?_
        refine lv_iadd hx hb d_Mod_take_34 ?_
        exact v_Mod_take_35 X ih hP hD hS (lv_sub hl [0] rfl) h
      · have h := if_t hc h
        refine lv_iconst (v := 0) hx hb d_Mod_take_25 (by decide) ?_
        refine lv_goto (tgt := 35) hx hb d_Mod_take_26 (by decide) ?_
        exact v_Mod_take_35 X ih hP hD hS (lv_sub hl [0] rfl) h
set_option maxHeartbeats 4000000 in
set_option maxRecDepth 100000 in
theorem m_Mod_take {l : Launch} {D : va_G} {ad : Nat → Nat} {ca : Nat → ClassId} {FU : Nat} {g : St} {q : Int32 × St} (h : Mod_take FU  g = some q) : CI l ⟨"FlashFilesModel", "take", "()I"⟩ prog_12_method_6_code 2 1 (some .int) D (tyM ca) (wM ad ca g) [.ref (ad 0)] q.1 (wM ad ca q.2) := by
  intro sz
  refine Met.fx (Qc := fun A => fxQi D (tyM ca) A (wM ad ca q.2) q.1) (by decide) (Nat.le_of_ble_eq_true rfl) ?_
  intro p e s m below meth c A ls X hP hD hl
  have hl : lv_has ls 2 [(0, .ref (ad 0))] := hl
  have hS : va_S A s.heap s.heap [] := va_S.rf
  have hx := X.1
  have hb := X.2.1
  unfold Mod_take at h
  exact v_Mod_take_0 X  _ _ _ _ _ hP hD hS (lv_sub hl [0] rfl) h
theorem d_Mod_leave_0 : decode prog_12_method_7_code 0 = .ok (.aload_n 0, 1) := by decide +kernel
theorem d_Mod_leave_1 : decode prog_12_method_7_code 1 = .ok (.getfield 41, 3) := by decide +kernel
theorem d_Mod_leave_4 : decode prog_12_method_7_code 4 = .ok (.iload_n 1, 1) := by decide +kernel
theorem d_Mod_leave_5 : decode prog_12_method_7_code 5 = .ok (.iaload, 1) := by decide +kernel
theorem d_Mod_leave_6 : decode prog_12_method_7_code 6 = .ok (.ifCond .lt 18, 3) := by decide +kernel
theorem d_Mod_leave_9 : decode prog_12_method_7_code 9 = .ok (.aload_n 0, 1) := by decide +kernel
theorem d_Mod_leave_10 : decode prog_12_method_7_code 10 = .ok (.getfield 48, 3) := by decide +kernel
theorem d_Mod_leave_13 : decode prog_12_method_7_code 13 = .ok (.aload_n 0, 1) := by decide +kernel
theorem d_Mod_leave_14 : decode prog_12_method_7_code 14 = .ok (.getfield 41, 3) := by decide +kernel
theorem d_Mod_leave_17 : decode prog_12_method_7_code 17 = .ok (.iload_n 1, 1) := by decide +kernel
theorem d_Mod_leave_18 : decode prog_12_method_7_code 18 = .ok (.iaload, 1) := by decide +kernel
theorem d_Mod_leave_19 : decode prog_12_method_7_code 19 = .ok (.dup2, 1) := by decide +kernel
theorem d_Mod_leave_20 : decode prog_12_method_7_code 20 = .ok (.iaload, 1) := by decide +kernel
theorem d_Mod_leave_21 : decode prog_12_method_7_code 21 = .ok (.iconst 1, 1) := by decide +kernel
theorem d_Mod_leave_22 : decode prog_12_method_7_code 22 = .ok (.isub, 1) := by decide +kernel
theorem d_Mod_leave_23 : decode prog_12_method_7_code 23 = .ok (.iastore, 1) := by decide +kernel
theorem d_Mod_leave_24 : decode prog_12_method_7_code 24 = .ok (.aload_n 0, 1) := by decide +kernel
theorem d_Mod_leave_25 : decode prog_12_method_7_code 25 = .ok (.getfield 41, 3) := by decide +kernel
theorem d_Mod_leave_28 : decode prog_12_method_7_code 28 = .ok (.iload_n 1, 1) := by decide +kernel
theorem d_Mod_leave_29 : decode prog_12_method_7_code 29 = .ok (.iconst (-1), 1) := by decide +kernel
theorem d_Mod_leave_30 : decode prog_12_method_7_code 30 = .ok (.iastore, 1) := by decide +kernel
theorem d_Mod_leave_31 : decode prog_12_method_7_code 31 = .ok (.return_, 1) := by decide +kernel
set_option maxHeartbeats 4000000 in
set_option maxRecDepth 100000 in
theorem m_Mod_leave {l : Launch} {D : va_G} {ad : Nat → Nat} {ca : Nat → ClassId} {FU : Nat} {x1 : Int32} {g : St} {q : St} (h : Mod_leave FU x1 g = some q) : CV l ⟨"FlashFilesModel", "leave", "(I)V"⟩ prog_12_method_7_code 2 1 D (tyM ca) (wM ad ca g) [.ref (ad 0), .int x1] (wM ad ca q) := by
  intro sz
  refine Met.fx (Qc := fun A => fxQv D (tyM ca) A (wM ad ca q)) (by decide) (Nat.le_of_ble_eq_true rfl) ?_
  intro p e s m below meth c A ls X hP hD hl
  have hl : lv_has ls 2 [(0, .ref (ad 0)), (1, .int x1)] := hl
  have hS : va_S A s.heap s.heap [] := va_S.rf
  have hx := X.1
  have hb := X.2.1
  unfold Mod_leave at h
  refine lv_aload_n hx hb d_Mod_leave_0 rfl (lv_at hl 0 rfl) ?_
  refine gM_mod_piece X hP d_Mod_leave_1 ?_
  refine lv_iload_n hx hb d_Mod_leave_4 rfl (lv_at hl 1 rfl) ?_
  obtain ⟨v1, e1, h⟩ := bd_some h
  refine rM_8 X hP e1 d_Mod_leave_5 ?_
  refine lv_if_lt (tgt := 24) hx hb d_Mod_leave_6 (by decide) (fun hc => ?_) (fun hc => ?_)
  · have h := if_t hc h
    refine lv_aload_n hx hb d_Mod_leave_24 rfl (lv_at hl 0 rfl) ?_
    refine gM_mod_piece X hP d_Mod_leave_25 ?_
    refine lv_iload_n hx hb d_Mod_leave_28 rfl (lv_at hl 1 rfl) ?_
    refine lv_iconst (v := -1) hx hb d_Mod_leave_29 (by decide) ?_
    obtain ⟨g2, e1, h⟩ := bd_some h
    refine sM_8 X hP hD hS e1 d_Mod_leave_30 (fun H locs hP hD hS => ?_)
    cases h
    exact fx_vret X hP hD hS d_Mod_leave_31
  · have h := if_f hc h
    refine lv_aload_n hx hb d_Mod_leave_9 rfl (lv_at hl 0 rfl) ?_
    refine gM_mod_owners X hP d_Mod_leave_10 ?_
    refine lv_aload_n hx hb d_Mod_leave_13 rfl (lv_at hl 0 rfl) ?_
    refine gM_mod_piece X hP d_Mod_leave_14 ?_
    refine lv_iload_n hx hb d_Mod_leave_17 rfl (lv_at hl 1 rfl) ?_
    obtain ⟨v3, e1, h⟩ := bd_some h
    refine rM_8 X hP e1 d_Mod_leave_18 ?_
    refine lv_dup2_11 hx hb d_Mod_leave_19 rfl rfl ?_
    obtain ⟨v4, e1, h⟩ := bd_some h
    refine rM_10 X hP e1 d_Mod_leave_20 ?_
    refine lv_iconst (v := 1) hx hb d_Mod_leave_21 (by decide) ?_
    refine lv_isub hx hb d_Mod_leave_22 ?_
    obtain ⟨g5, e1, h⟩ := bd_some h
    refine sM_10 X hP hD hS e1 d_Mod_leave_23 (fun H locs hP hD hS => ?_)
    refine lv_aload_n hx hb d_Mod_leave_24 rfl (lv_at hl 0 rfl) ?_
    refine gM_mod_piece X hP d_Mod_leave_25 ?_
    refine lv_iload_n hx hb d_Mod_leave_28 rfl (lv_at hl 1 rfl) ?_
    refine lv_iconst (v := -1) hx hb d_Mod_leave_29 (by decide) ?_
    obtain ⟨g6, e1, h⟩ := bd_some h
    refine sM_8 X hP hD hS e1 d_Mod_leave_30 (fun H locs hP hD hS => ?_)
    cases h
    exact fx_vret X hP hD hS d_Mod_leave_31
theorem d_Mod_own_0 : decode prog_12_method_8_code 0 = .ok (.iconst 0, 1) := by decide +kernel
theorem d_Mod_own_1 : decode prog_12_method_8_code 1 = .ok (.iload_n 1, 1) := by decide +kernel
theorem d_Mod_own_2 : decode prog_12_method_8_code 2 = .ok (.iload_n 2, 1) := by decide +kernel
theorem d_Mod_own_3 : decode prog_12_method_8_code 3 = .ok (.invokestatic 82, 3) := by decide +kernel
theorem d_Mod_own_6 : decode prog_12_method_8_code 6 = .ok (.istore_n 3, 1) := by decide +kernel
theorem d_Mod_own_7 : decode prog_12_method_8_code 7 = .ok (.aload_n 0, 1) := by decide +kernel
theorem d_Mod_own_8 : decode prog_12_method_8_code 8 = .ok (.getfield 41, 3) := by decide +kernel
theorem d_Mod_own_11 : decode prog_12_method_8_code 11 = .ok (.iload_n 3, 1) := by decide +kernel
theorem d_Mod_own_12 : decode prog_12_method_8_code 12 = .ok (.iaload, 1) := by decide +kernel
theorem d_Mod_own_13 : decode prog_12_method_8_code 13 = .ok (.istore 4, 2) := by decide +kernel
theorem d_Mod_own_15 : decode prog_12_method_8_code 15 = .ok (.iload 4, 2) := by decide +kernel
theorem d_Mod_own_17 : decode prog_12_method_8_code 17 = .ok (.ifCond .lt 17, 3) := by decide +kernel
theorem d_Mod_own_20 : decode prog_12_method_8_code 20 = .ok (.aload_n 0, 1) := by decide +kernel
theorem d_Mod_own_21 : decode prog_12_method_8_code 21 = .ok (.getfield 48, 3) := by decide +kernel
theorem d_Mod_own_24 : decode prog_12_method_8_code 24 = .ok (.iload 4, 2) := by decide +kernel
theorem d_Mod_own_26 : decode prog_12_method_8_code 26 = .ok (.iaload, 1) := by decide +kernel
theorem d_Mod_own_27 : decode prog_12_method_8_code 27 = .ok (.iconst 1, 1) := by decide +kernel
theorem d_Mod_own_28 : decode prog_12_method_8_code 28 = .ok (.if_icmp .ne 6, 3) := by decide +kernel
theorem d_Mod_own_31 : decode prog_12_method_8_code 31 = .ok (.iload 4, 2) := by decide +kernel
theorem d_Mod_own_33 : decode prog_12_method_8_code 33 = .ok (.ireturn, 1) := by decide +kernel
theorem d_Mod_own_34 : decode prog_12_method_8_code 34 = .ok (.aload_n 0, 1) := by decide +kernel
theorem d_Mod_own_35 : decode prog_12_method_8_code 35 = .ok (.invokevirtual 86, 3) := by decide +kernel
theorem d_Mod_own_38 : decode prog_12_method_8_code 38 = .ok (.istore 5, 2) := by decide +kernel
theorem d_Mod_own_40 : decode prog_12_method_8_code 40 = .ok (.iload 4, 2) := by decide +kernel
theorem d_Mod_own_42 : decode prog_12_method_8_code 42 = .ok (.ifCond .lt 59, 3) := by decide +kernel
theorem d_Mod_own_45 : decode prog_12_method_8_code 45 = .ok (.iconst 0, 1) := by decide +kernel
theorem d_Mod_own_46 : decode prog_12_method_8_code 46 = .ok (.istore 6, 2) := by decide +kernel
theorem d_Mod_own_48 : decode prog_12_method_8_code 48 = .ok (.iload 6, 2) := by decide +kernel
theorem d_Mod_own_50 : decode prog_12_method_8_code 50 = .ok (.sipush 256, 3) := by decide +kernel
theorem d_Mod_own_53 : decode prog_12_method_8_code 53 = .ok (.if_icmp .ge 37, 3) := by decide +kernel
theorem d_Mod_own_56 : decode prog_12_method_8_code 56 = .ok (.aload_n 0, 1) := by decide +kernel
theorem d_Mod_own_57 : decode prog_12_method_8_code 57 = .ok (.getfield 45, 3) := by decide +kernel
theorem d_Mod_own_60 : decode prog_12_method_8_code 60 = .ok (.sipush 256, 3) := by decide +kernel
theorem d_Mod_own_63 : decode prog_12_method_8_code 63 = .ok (.iload 5, 2) := by decide +kernel
theorem d_Mod_own_65 : decode prog_12_method_8_code 65 = .ok (.imul, 1) := by decide +kernel
theorem d_Mod_own_66 : decode prog_12_method_8_code 66 = .ok (.iload 6, 2) := by decide +kernel
theorem d_Mod_own_68 : decode prog_12_method_8_code 68 = .ok (.iadd, 1) := by decide +kernel
theorem d_Mod_own_69 : decode prog_12_method_8_code 69 = .ok (.aload_n 0, 1) := by decide +kernel
theorem d_Mod_own_70 : decode prog_12_method_8_code 70 = .ok (.getfield 45, 3) := by decide +kernel
theorem d_Mod_own_73 : decode prog_12_method_8_code 73 = .ok (.sipush 256, 3) := by decide +kernel
theorem d_Mod_own_76 : decode prog_12_method_8_code 76 = .ok (.iload 4, 2) := by decide +kernel
theorem d_Mod_own_78 : decode prog_12_method_8_code 78 = .ok (.imul, 1) := by decide +kernel
theorem d_Mod_own_79 : decode prog_12_method_8_code 79 = .ok (.iload 6, 2) := by decide +kernel
theorem d_Mod_own_81 : decode prog_12_method_8_code 81 = .ok (.iadd, 1) := by decide +kernel
theorem d_Mod_own_82 : decode prog_12_method_8_code 82 = .ok (.baload, 1) := by decide +kernel
theorem d_Mod_own_83 : decode prog_12_method_8_code 83 = .ok (.bastore, 1) := by decide +kernel
theorem d_Mod_own_84 : decode prog_12_method_8_code 84 = .ok (.iinc 6 1, 3) := by decide +kernel
theorem d_Mod_own_87 : decode prog_12_method_8_code 87 = .ok (.goto (-39), 3) := by decide +kernel
theorem d_Mod_own_90 : decode prog_12_method_8_code 90 = .ok (.aload_n 0, 1) := by decide +kernel
theorem d_Mod_own_91 : decode prog_12_method_8_code 91 = .ok (.getfield 48, 3) := by decide +kernel
theorem d_Mod_own_94 : decode prog_12_method_8_code 94 = .ok (.iload 4, 2) := by decide +kernel
theorem d_Mod_own_96 : decode prog_12_method_8_code 96 = .ok (.dup2, 1) := by decide +kernel
theorem d_Mod_own_97 : decode prog_12_method_8_code 97 = .ok (.iaload, 1) := by decide +kernel
theorem d_Mod_own_98 : decode prog_12_method_8_code 98 = .ok (.iconst 1, 1) := by decide +kernel
theorem d_Mod_own_99 : decode prog_12_method_8_code 99 = .ok (.isub, 1) := by decide +kernel
theorem d_Mod_own_100 : decode prog_12_method_8_code 100 = .ok (.iastore, 1) := by decide +kernel
theorem d_Mod_own_101 : decode prog_12_method_8_code 101 = .ok (.aload_n 0, 1) := by decide +kernel
theorem d_Mod_own_102 : decode prog_12_method_8_code 102 = .ok (.getfield 41, 3) := by decide +kernel
theorem d_Mod_own_105 : decode prog_12_method_8_code 105 = .ok (.iload_n 3, 1) := by decide +kernel
theorem d_Mod_own_106 : decode prog_12_method_8_code 106 = .ok (.iload 5, 2) := by decide +kernel
theorem d_Mod_own_108 : decode prog_12_method_8_code 108 = .ok (.iastore, 1) := by decide +kernel
theorem d_Mod_own_109 : decode prog_12_method_8_code 109 = .ok (.iload 5, 2) := by decide +kernel
theorem d_Mod_own_111 : decode prog_12_method_8_code 111 = .ok (.ireturn, 1) := by decide +kernel
set_option maxHeartbeats 4000000 in
set_option maxRecDepth 100000 in
theorem v_Mod_own_48 {p : Program} {l : Launch} {e : Env} {s : State} {m : MethodId} {args : Array Value} {below : List Frame} {meth : Method} {c : Code} {D : va_G} {ad : Nat → Nat} {ca : Nat → ClassId} {A : Nat → Prop} {FU : Nat} {q : Int32 × St} (X : FX p s m meth c prog_12_method_8_code 7 (some .int) "FlashFilesModel" D (tyM ca) A) : ∀ (n : Nat), ∀ (y3 y4 y5 y6 : Int32) (g : St) (H : Heap) (locs : List Loc) (ls : Array Slot), va_P D cls (wM ad ca g) H → va_D A (wM ad ca g) → va_S A s.heap H locs → lv_has ls 7 [(0, .ref (ad 0)), (3, .int y3), (4, .int y4), (5, .int y5), (6, .int y6)] → Mod_own_b48 FU n y3 y4 y5 y6 g = some q → W p l e (rmN 2) s m args below meth c H locs 0 0 (MQ below (fxQi D (tyM ca) A (wM ad ca q.2) q.1) args s 0 0 A) (F0 m 48 ls []) := by
  have hx := X.1
  have hb := X.2.1
  intro n
  induction n with
  | zero =>
    intro y3 y4 y5 y6 g H locs ls hP hD hS hl h
    cases h
  | succ n ih =>
    intro y3 y4 y5 y6 g H locs ls hP hD hS hl h
    have h := h
    rw [Mod_own_b48.eq_2] at h
    refine lv_iload hx hb d_Mod_own_48 (lv_at hl 4 rfl) ?_
    refine lv_sipush (v := 256) hx hb d_Mod_own_50 (by decide) ?_
    refine lv_icmp_ge (tgt := 90) hx hb d_Mod_own_53 (by decide) (fun hc => ?_) (fun hc => ?_)
    · have h := if_t hc h
      refine lv_aload_n hx hb d_Mod_own_90 rfl (lv_at hl 0 rfl) ?_
      refine gM_mod_owners X hP d_Mod_own_91 ?_
      refine lv_iload hx hb d_Mod_own_94 (lv_at hl 2 rfl) ?_
      refine lv_dup2_11 hx hb d_Mod_own_96 rfl rfl ?_
      obtain ⟨v1, e1, h⟩ := bd_some h
      refine rM_10 X hP e1 d_Mod_own_97 ?_
      refine lv_iconst (v := 1) hx hb d_Mod_own_98 (by decide) ?_
      refine lv_isub hx hb d_Mod_own_99 ?_
      obtain ⟨g2, e1, h⟩ := bd_some h
      refine sM_10 X hP hD hS e1 d_Mod_own_100 (fun H locs hP hD hS => ?_)
      refine lv_aload_n hx hb d_Mod_own_101 rfl (lv_at hl 0 rfl) ?_
      refine gM_mod_piece X hP d_Mod_own_102 ?_
      refine lv_iload_n hx hb d_Mod_own_105 rfl (lv_at hl 1 rfl) ?_
      refine lv_iload hx hb d_Mod_own_106 (lv_at hl 3 rfl) ?_
      obtain ⟨g3, e1, h⟩ := bd_some h
      refine sM_8 X hP hD hS e1 d_Mod_own_108 (fun H locs hP hD hS => ?_)
      refine lv_iload hx hb d_Mod_own_109 (lv_at hl 3 rfl) ?_
      cases h
      exact fx_iret X hP hD hS d_Mod_own_111
    · have h := if_f hc h
      refine lv_aload_n hx hb d_Mod_own_56 rfl (lv_at hl 0 rfl) ?_
      refine gM_mod_pool X hP d_Mod_own_57 ?_
      refine lv_sipush (v := 256) hx hb d_Mod_own_60 (by decide) ?_
      refine lv_iload hx hb d_Mod_own_63 (lv_at hl 3 rfl) ?_
      refine lv_imul hx hb d_Mod_own_65 ?_
      refine lv_iload hx hb d_Mod_own_66 (lv_at hl 4 rfl) ?_
      refine lv_iadd hx hb d_Mod_own_68 ?_
      refine lv_aload_n hx hb d_Mod_own_69 rfl (lv_at hl 0 rfl) ?_
      refine gM_mod_pool X hP d_Mod_own_70 ?_
      refine lv_sipush (v := 256) hx hb d_Mod_own_73 (by decide) ?_
      refine lv_iload hx hb d_Mod_own_76 (lv_at hl 2 rfl) ?_
      refine lv_imul hx hb d_Mod_own_78 ?_
      refine lv_iload hx hb d_Mod_own_79 (lv_at hl 4 rfl) ?_
      refine lv_iadd hx hb d_Mod_own_81 ?_
      obtain ⟨v4, e1, h⟩ := bd_some h
      refine rM_9 X hP e1 d_Mod_own_82 ?_
      obtain ⟨g5, e1, h⟩ := bd_some h
      refine sM_9 X hP hD hS e1 d_Mod_own_83 (fun H locs hP hD hS => ?_)
      refine lv_iinc (k := 4) (v := (y6 + (1 : Int32))) hx hb d_Mod_own_84 hl rfl (oi_1 _) (by decide) rfl (fun ls hl => ?_)
      have hl : lv_has ls 7 [(6, .int (y6 + (1 : Int32))), (0, .ref (ad 0)), (3, .int y3), (4, .int y4), (5, .int y5)] := hl
      refine lv_goto (tgt := 48) hx hb d_Mod_own_87 (by decide) ?_
      exact ih _ _ _ _ _ _ _ _ hP hD hS (lv_sub hl [1, 2, 3, 4, 0] rfl) h
set_option maxHeartbeats 4000000 in
set_option maxRecDepth 100000 in
theorem v_Mod_own_34 {p : Program} {l : Launch} {e : Env} {s : State} {m : MethodId} {args : Array Value} {below : List Frame} {meth : Method} {c : Code} {D : va_G} {ad : Nat → Nat} {ca : Nat → ClassId} {A : Nat → Prop} {FU : Nat} {q : Int32 × St} (X : FX p s m meth c prog_12_method_8_code 7 (some .int) "FlashFilesModel" D (tyM ca) A) {y3 : Int32} {y4 : Int32} {g : St} {H : Heap} {locs : List Loc} {ls : Array Slot} (hP : va_P D cls (wM ad ca g) H) (hD : va_D A (wM ad ca g)) (hS : va_S A s.heap H locs) (hl : lv_has ls 7 [(0, .ref (ad 0)), (3, .int y3), (4, .int y4)]) (h : Mod_own_b34 FU y3 y4 g = some q) : W p l e (rmN 2) s m args below meth c H locs 0 0 (MQ below (fxQi D (tyM ca) A (wM ad ca q.2) q.1) args s 0 0 A) (F0 m 34 ls []) := by
  have hx := X.1
  have hb := X.2.1
  unfold Mod_own_b34 at h
  refine lv_aload_n hx hb d_Mod_own_34 rfl (lv_at hl 0 rfl) ?_
  obtain ⟨p6, e1, h⟩ := bd_some h
  refine fx_i X (fx_runV (As := []) X (m_Mod_take e1 _) hP hD kv_Mod_86 ⟨Nat.le_of_ble_eq_true rfl, Nat.le_of_ble_eq_true rfl⟩ 0 rfl rfl rfl hl.1 rfl (Nat.le_of_ble_eq_true rfl) d_Mod_own_35) hD hS (fun H locs hP hD hS => ?_)
  refine lv_istore hx hb d_Mod_own_38 hl (by decide) rfl (fun ls hl => ?_)
  have hl : lv_has ls 7 [(5, .int p6.1), (0, .ref (ad 0)), (3, .int y3), (4, .int y4)] := hl
  refine lv_iload hx hb d_Mod_own_40 (lv_at hl 3 rfl) ?_
  refine lv_if_lt (tgt := 101) hx hb d_Mod_own_42 (by decide) (fun hc => ?_) (fun hc => ?_)
  · have h := if_t hc h
    refine lv_aload_n hx hb d_Mod_own_101 rfl (lv_at hl 1 rfl) ?_
    refine gM_mod_piece X hP d_Mod_own_102 ?_
    refine lv_iload_n hx hb d_Mod_own_105 rfl (lv_at hl 2 rfl) ?_
    refine lv_iload hx hb d_Mod_own_106 (lv_at hl 0 rfl) ?_
    obtain ⟨g7, e1, h⟩ := bd_some h
    refine sM_8 X hP hD hS e1 d_Mod_own_108 (fun H locs hP hD hS => ?_)
    refine lv_iload hx hb d_Mod_own_109 (lv_at hl 0 rfl) ?_
    cases h
    exact fx_iret X hP hD hS d_Mod_own_111
  · have h := if_f hc h
    refine lv_iconst (v := 0) hx hb d_Mod_own_45 (by decide) ?_
    refine lv_istore hx hb d_Mod_own_46 hl (by decide) rfl (fun ls hl => ?_)
    have hl : lv_has ls 7 [(6, .int (0 : Int32)), (5, .int p6.1), (0, .ref (ad 0)), (3, .int y3), (4, .int y4)] := hl
    exact v_Mod_own_48 X  _ _ _ _ _ _ _ _ _ hP hD hS (lv_sub hl [2, 3, 4, 1, 0] rfl) h
set_option maxHeartbeats 4000000 in
set_option maxRecDepth 100000 in
theorem m_Mod_own {l : Launch} {D : va_G} {ad : Nat → Nat} {ca : Nat → ClassId} {FU : Nat} {x1 : Int32} {x2 : Int32} {g : St} {q : Int32 × St} (h : Mod_own FU x1 x2 g = some q) : CI l ⟨"FlashFilesModel", "own", "(II)I"⟩ prog_12_method_8_code 7 2 (some .int) D (tyM ca) (wM ad ca g) [.ref (ad 0), .int x1, .int x2] q.1 (wM ad ca q.2) := by
  intro sz
  refine Met.fx (Qc := fun A => fxQi D (tyM ca) A (wM ad ca q.2) q.1) (by decide) (Nat.le_of_ble_eq_true rfl) ?_
  intro p e s m below meth c A ls X hP hD hl
  have hl : lv_has ls 7 [(0, .ref (ad 0)), (1, .int x1), (2, .int x2)] := hl
  have hS : va_S A s.heap s.heap [] := va_S.rf
  have hx := X.1
  have hb := X.2.1
  unfold Mod_own at h
  refine lv_iconst (v := 0) hx hb d_Mod_own_0 (by decide) ?_
  refine lv_iload_n hx hb d_Mod_own_1 rfl (lv_at hl 1 rfl) ?_
  refine lv_iload_n hx hb d_Mod_own_2 rfl (lv_at hl 2 rfl) ?_
  obtain ⟨v8, e1, h⟩ := bd_some h
  refine fx_i X (fx_runS X (m_Mod_at e1 _) (As := [.int (0 : Int32), .int x1, .int x2]) hP hD ks_Mod_82 ⟨Nat.le_of_ble_eq_true rfl, Nat.le_of_ble_eq_true rfl⟩ rfl hl.1 rfl (Nat.le_of_ble_eq_true rfl) d_Mod_own_3) hD hS (fun H locs hP hD hS => ?_)
  refine lv_istore_n hx hb d_Mod_own_6 rfl hl (by decide) rfl (fun ls hl => ?_)
  have hl : lv_has ls 7 [(3, .int v8), (0, .ref (ad 0)), (1, .int x1), (2, .int x2)] := hl
  refine lv_aload_n hx hb d_Mod_own_7 rfl (lv_at hl 1 rfl) ?_
  refine gM_mod_piece X hP d_Mod_own_8 ?_
  refine lv_iload_n hx hb d_Mod_own_11 rfl (lv_at hl 0 rfl) ?_
  obtain ⟨v9, e1, h⟩ := bd_some h
  refine rM_8 X hP e1 d_Mod_own_12 ?_
  refine lv_istore hx hb d_Mod_own_13 hl (by decide) rfl (fun ls hl => ?_)
  have hl : lv_has ls 7 [(4, .int v9), (3, .int v8), (0, .ref (ad 0)), (1, .int x1), (2, .int x2)] := hl
  refine lv_iload hx hb d_Mod_own_15 (lv_at hl 0 rfl) ?_
  refine lv_if_lt (tgt := 34) hx hb d_Mod_own_17 (by decide) (fun hc => ?_) (fun hc => ?_)
  · have h := if_t hc h
    exact v_Mod_own_34 X  hP hD hS (lv_sub hl [2, 1, 0] rfl) h
  · have h := if_f hc h
    refine lv_aload_n hx hb d_Mod_own_20 rfl (lv_at hl 2 rfl) ?_
    refine gM_mod_owners X hP d_Mod_own_21 ?_
    refine lv_iload hx hb d_Mod_own_24 (lv_at hl 0 rfl) ?_
    obtain ⟨v10, e1, h⟩ := bd_some h
    refine rM_10 X hP e1 d_Mod_own_26 ?_
    refine lv_iconst (v := 1) hx hb d_Mod_own_27 (by decide) ?_
    refine lv_icmp_ne (tgt := 34) hx hb d_Mod_own_28 (by decide) (fun hc => ?_) (fun hc => ?_)
    · have h := if_f hc h
      exact v_Mod_own_34 X  hP hD hS (lv_sub hl [2, 1, 0] rfl) h
    · have h := if_t hc h
      refine lv_iload hx hb d_Mod_own_31 (lv_at hl 0 rfl) ?_
      cases h
      exact fx_iret X hP hD hS d_Mod_own_33
theorem d_Mod_copyFile_0 : decode prog_12_method_9_code 0 = .ok (.sipush 251, 3) := by decide +kernel
theorem d_Mod_copyFile_3 : decode prog_12_method_9_code 3 = .ok (.iload_n 2, 1) := by decide +kernel
theorem d_Mod_copyFile_4 : decode prog_12_method_9_code 4 = .ok (.imul, 1) := by decide +kernel
theorem d_Mod_copyFile_5 : decode prog_12_method_9_code 5 = .ok (.iload_n 1, 1) := by decide +kernel
theorem d_Mod_copyFile_6 : decode prog_12_method_9_code 6 = .ok (.iadd, 1) := by decide +kernel
theorem d_Mod_copyFile_7 : decode prog_12_method_9_code 7 = .ok (.istore 4, 2) := by decide +kernel
theorem d_Mod_copyFile_9 : decode prog_12_method_9_code 9 = .ok (.sipush 251, 3) := by decide +kernel
theorem d_Mod_copyFile_12 : decode prog_12_method_9_code 12 = .ok (.iload_n 3, 1) := by decide +kernel
theorem d_Mod_copyFile_13 : decode prog_12_method_9_code 13 = .ok (.imul, 1) := by decide +kernel
theorem d_Mod_copyFile_14 : decode prog_12_method_9_code 14 = .ok (.iload_n 1, 1) := by decide +kernel
theorem d_Mod_copyFile_15 : decode prog_12_method_9_code 15 = .ok (.iadd, 1) := by decide +kernel
theorem d_Mod_copyFile_16 : decode prog_12_method_9_code 16 = .ok (.istore 5, 2) := by decide +kernel
theorem d_Mod_copyFile_18 : decode prog_12_method_9_code 18 = .ok (.aload_n 0, 1) := by decide +kernel
theorem d_Mod_copyFile_19 : decode prog_12_method_9_code 19 = .ok (.getfield 24, 3) := by decide +kernel
theorem d_Mod_copyFile_22 : decode prog_12_method_9_code 22 = .ok (.iload 5, 2) := by decide +kernel
theorem d_Mod_copyFile_24 : decode prog_12_method_9_code 24 = .ok (.aload_n 0, 1) := by decide +kernel
theorem d_Mod_copyFile_25 : decode prog_12_method_9_code 25 = .ok (.getfield 24, 3) := by decide +kernel
theorem d_Mod_copyFile_28 : decode prog_12_method_9_code 28 = .ok (.iload 4, 2) := by decide +kernel
theorem d_Mod_copyFile_30 : decode prog_12_method_9_code 30 = .ok (.iaload, 1) := by decide +kernel
theorem d_Mod_copyFile_31 : decode prog_12_method_9_code 31 = .ok (.iastore, 1) := by decide +kernel
theorem d_Mod_copyFile_32 : decode prog_12_method_9_code 32 = .ok (.aload_n 0, 1) := by decide +kernel
theorem d_Mod_copyFile_33 : decode prog_12_method_9_code 33 = .ok (.getfield 30, 3) := by decide +kernel
theorem d_Mod_copyFile_36 : decode prog_12_method_9_code 36 = .ok (.iload 5, 2) := by decide +kernel
theorem d_Mod_copyFile_38 : decode prog_12_method_9_code 38 = .ok (.aload_n 0, 1) := by decide +kernel
theorem d_Mod_copyFile_39 : decode prog_12_method_9_code 39 = .ok (.getfield 30, 3) := by decide +kernel
theorem d_Mod_copyFile_42 : decode prog_12_method_9_code 42 = .ok (.iload 4, 2) := by decide +kernel
theorem d_Mod_copyFile_44 : decode prog_12_method_9_code 44 = .ok (.baload, 1) := by decide +kernel
theorem d_Mod_copyFile_45 : decode prog_12_method_9_code 45 = .ok (.bastore, 1) := by decide +kernel
theorem d_Mod_copyFile_46 : decode prog_12_method_9_code 46 = .ok (.iconst 0, 1) := by decide +kernel
theorem d_Mod_copyFile_47 : decode prog_12_method_9_code 47 = .ok (.istore 6, 2) := by decide +kernel
theorem d_Mod_copyFile_49 : decode prog_12_method_9_code 49 = .ok (.iload 6, 2) := by decide +kernel
theorem d_Mod_copyFile_51 : decode prog_12_method_9_code 51 = .ok (.sipush 391, 3) := by decide +kernel
theorem d_Mod_copyFile_54 : decode prog_12_method_9_code 54 = .ok (.if_icmp .ge 64, 3) := by decide +kernel
theorem d_Mod_copyFile_57 : decode prog_12_method_9_code 57 = .ok (.aload_n 0, 1) := by decide +kernel
theorem d_Mod_copyFile_58 : decode prog_12_method_9_code 58 = .ok (.getfield 41, 3) := by decide +kernel
theorem d_Mod_copyFile_61 : decode prog_12_method_9_code 61 = .ok (.iload_n 2, 1) := by decide +kernel
theorem d_Mod_copyFile_62 : decode prog_12_method_9_code 62 = .ok (.iload_n 1, 1) := by decide +kernel
theorem d_Mod_copyFile_63 : decode prog_12_method_9_code 63 = .ok (.iload 6, 2) := by decide +kernel
theorem d_Mod_copyFile_65 : decode prog_12_method_9_code 65 = .ok (.invokestatic 82, 3) := by decide +kernel
theorem d_Mod_copyFile_68 : decode prog_12_method_9_code 68 = .ok (.iaload, 1) := by decide +kernel
theorem d_Mod_copyFile_69 : decode prog_12_method_9_code 69 = .ok (.istore 7, 2) := by decide +kernel
theorem d_Mod_copyFile_71 : decode prog_12_method_9_code 71 = .ok (.iload 7, 2) := by decide +kernel
theorem d_Mod_copyFile_73 : decode prog_12_method_9_code 73 = .ok (.ifCond .lt 14, 3) := by decide +kernel
theorem d_Mod_copyFile_76 : decode prog_12_method_9_code 76 = .ok (.aload_n 0, 1) := by decide +kernel
theorem d_Mod_copyFile_77 : decode prog_12_method_9_code 77 = .ok (.getfield 48, 3) := by decide +kernel
theorem d_Mod_copyFile_80 : decode prog_12_method_9_code 80 = .ok (.iload 7, 2) := by decide +kernel
theorem d_Mod_copyFile_82 : decode prog_12_method_9_code 82 = .ok (.dup2, 1) := by decide +kernel
theorem d_Mod_copyFile_83 : decode prog_12_method_9_code 83 = .ok (.iaload, 1) := by decide +kernel
theorem d_Mod_copyFile_84 : decode prog_12_method_9_code 84 = .ok (.iconst 1, 1) := by decide +kernel
theorem d_Mod_copyFile_85 : decode prog_12_method_9_code 85 = .ok (.iadd, 1) := by decide +kernel
theorem d_Mod_copyFile_86 : decode prog_12_method_9_code 86 = .ok (.iastore, 1) := by decide +kernel
theorem d_Mod_copyFile_87 : decode prog_12_method_9_code 87 = .ok (.aload_n 0, 1) := by decide +kernel
theorem d_Mod_copyFile_88 : decode prog_12_method_9_code 88 = .ok (.iload_n 3, 1) := by decide +kernel
theorem d_Mod_copyFile_89 : decode prog_12_method_9_code 89 = .ok (.iload_n 1, 1) := by decide +kernel
theorem d_Mod_copyFile_90 : decode prog_12_method_9_code 90 = .ok (.iload 6, 2) := by decide +kernel
theorem d_Mod_copyFile_92 : decode prog_12_method_9_code 92 = .ok (.invokestatic 82, 3) := by decide +kernel
theorem d_Mod_copyFile_95 : decode prog_12_method_9_code 95 = .ok (.invokevirtual 90, 3) := by decide +kernel
theorem d_Mod_copyFile_98 : decode prog_12_method_9_code 98 = .ok (.aload_n 0, 1) := by decide +kernel
theorem d_Mod_copyFile_99 : decode prog_12_method_9_code 99 = .ok (.getfield 41, 3) := by decide +kernel
theorem d_Mod_copyFile_102 : decode prog_12_method_9_code 102 = .ok (.iload_n 3, 1) := by decide +kernel
theorem d_Mod_copyFile_103 : decode prog_12_method_9_code 103 = .ok (.iload_n 1, 1) := by decide +kernel
theorem d_Mod_copyFile_104 : decode prog_12_method_9_code 104 = .ok (.iload 6, 2) := by decide +kernel
theorem d_Mod_copyFile_106 : decode prog_12_method_9_code 106 = .ok (.invokestatic 82, 3) := by decide +kernel
theorem d_Mod_copyFile_109 : decode prog_12_method_9_code 109 = .ok (.iload 7, 2) := by decide +kernel
theorem d_Mod_copyFile_111 : decode prog_12_method_9_code 111 = .ok (.iastore, 1) := by decide +kernel
theorem d_Mod_copyFile_112 : decode prog_12_method_9_code 112 = .ok (.iinc 6 1, 3) := by decide +kernel
theorem d_Mod_copyFile_115 : decode prog_12_method_9_code 115 = .ok (.goto (-66), 3) := by decide +kernel
theorem d_Mod_copyFile_118 : decode prog_12_method_9_code 118 = .ok (.return_, 1) := by decide +kernel
set_option maxHeartbeats 4000000 in
set_option maxRecDepth 100000 in
theorem v_Mod_copyFile_87 {p : Program} {l : Launch} {e : Env} {s : State} {m : MethodId} {args : Array Value} {below : List Frame} {meth : Method} {c : Code} {D : va_G} {ad : Nat → Nat} {ca : Nat → ClassId} {A : Nat → Prop} {FU : Nat} {q : St} (X : FX p s m meth c prog_12_method_9_code 8 none "FlashFilesModel" D (tyM ca) A) {k49 : Int32 → Int32 → Int32 → Int32 → St → Option (St)} (hk49 : ∀ (y1 y2 y3 y6 : Int32) (g : St) (H : Heap) (locs : List Loc) (ls : Array Slot), va_P D cls (wM ad ca g) H → va_D A (wM ad ca g) → va_S A s.heap H locs → lv_has ls 8 [(0, .ref (ad 0)), (1, .int y1), (2, .int y2), (3, .int y3), (6, .int y6)] → k49 y1 y2 y3 y6 g = some q → W p l e (rmN 2) s m args below meth c H locs 0 0 (MQ below (fxQv D (tyM ca) A (wM ad ca q)) args s 0 0 A) (F0 m 49 ls [])) {y1 : Int32} {y2 : Int32} {y3 : Int32} {y6 : Int32} {y7 : Int32} {g : St} {H : Heap} {locs : List Loc} {ls : Array Slot} (hP : va_P D cls (wM ad ca g) H) (hD : va_D A (wM ad ca g)) (hS : va_S A s.heap H locs) (hl : lv_has ls 8 [(0, .ref (ad 0)), (1, .int y1), (2, .int y2), (3, .int y3), (6, .int y6), (7, .int y7)]) (h : Mod_copyFile_b87 FU k49 y1 y2 y3 y6 y7 g = some q) : W p l e (rmN 2) s m args below meth c H locs 0 0 (MQ below (fxQv D (tyM ca) A (wM ad ca q)) args s 0 0 A) (F0 m 87 ls []) := by
  have hx := X.1
  have hb := X.2.1
  unfold Mod_copyFile_b87 at h
  refine lv_aload_n hx hb d_Mod_copyFile_87 rfl (lv_at hl 0 rfl) ?_
  refine lv_iload_n hx hb d_Mod_copyFile_88 rfl (lv_at hl 3 rfl) ?_
  refine lv_iload_n hx hb d_Mod_copyFile_89 rfl (lv_at hl 1 rfl) ?_
  refine lv_iload hx hb d_Mod_copyFile_90 (lv_at hl 4 rfl) ?_
  obtain ⟨v1, e1, h⟩ := bd_some h
  refine fx_i X (fx_runS X (m_Mod_at e1 _) (As := [.int y3, .int y1, .int y6]) hP hD ks_Mod_82 ⟨Nat.le_of_ble_eq_true rfl, Nat.le_of_ble_eq_true rfl⟩ rfl hl.1 rfl (Nat.le_of_ble_eq_true rfl) d_Mod_copyFile_92) hD hS (fun H locs hP hD hS => ?_)
  obtain ⟨p2, e1, h⟩ := bd_some h
  refine fx_v X (fx_runV (As := [.int v1]) X (m_Mod_leave e1 _) hP hD kv_Mod_90 ⟨Nat.le_of_ble_eq_true rfl, Nat.le_of_ble_eq_true rfl⟩ 0 rfl rfl rfl hl.1 rfl (Nat.le_of_ble_eq_true rfl) d_Mod_copyFile_95) hD hS (fun H locs hP hD hS => ?_)
  refine lv_aload_n hx hb d_Mod_copyFile_98 rfl (lv_at hl 0 rfl) ?_
  refine gM_mod_piece X hP d_Mod_copyFile_99 ?_
  refine lv_iload_n hx hb d_Mod_copyFile_102 rfl (lv_at hl 3 rfl) ?_
  refine lv_iload_n hx hb d_Mod_copyFile_103 rfl (lv_at hl 1 rfl) ?_
  refine lv_iload hx hb d_Mod_copyFile_104 (lv_at hl 4 rfl) ?_
  obtain ⟨v3, e1, h⟩ := bd_some h
  refine fx_i X (fx_runS X (m_Mod_at e1 _) (As := [.int y3, .int y1, .int y6]) hP hD ks_Mod_82 ⟨Nat.le_of_ble_eq_true rfl, Nat.le_of_ble_eq_true rfl⟩ rfl hl.1 rfl (Nat.le_of_ble_eq_true rfl) d_Mod_copyFile_106) hD hS (fun H locs hP hD hS => ?_)
  refine lv_iload hx hb d_Mod_copyFile_109 (lv_at hl 5 rfl) ?_
  obtain ⟨g4, e1, h⟩ := bd_some h
  refine sM_8 X hP hD hS e1 d_Mod_copyFile_111 (fun H locs hP hD hS => ?_)
  refine lv_iinc (k := 4) (v := (y6 + (1 : Int32))) hx hb d_Mod_copyFile_112 hl rfl (oi_1 _) (by decide) rfl (fun ls hl => ?_)
  have hl : lv_has ls 8 [(6, .int (y6 + (1 : Int32))), (0, .ref (ad 0)), (1, .int y1), (2, .int y2), (3, .int y3), (7, .int y7)] := hl
  refine lv_goto (tgt := 49) hx hb d_Mod_copyFile_115 (by decide) ?_
  exact hk49 _ _ _ _ _ _ _ _ hP hD hS (lv_sub hl [1, 2, 3, 4, 0] rfl) h
set_option maxHeartbeats 4000000 in
set_option maxRecDepth 100000 in
theorem v_Mod_copyFile_49 {p : Program} {l : Launch} {e : Env} {s : State} {m : MethodId} {args : Array Value} {below : List Frame} {meth : Method} {c : Code} {D : va_G} {ad : Nat → Nat} {ca : Nat → ClassId} {A : Nat → Prop} {FU : Nat} {q : St} (X : FX p s m meth c prog_12_method_9_code 8 none "FlashFilesModel" D (tyM ca) A) : ∀ (n : Nat), ∀ (y1 y2 y3 y6 : Int32) (g : St) (H : Heap) (locs : List Loc) (ls : Array Slot), va_P D cls (wM ad ca g) H → va_D A (wM ad ca g) → va_S A s.heap H locs → lv_has ls 8 [(0, .ref (ad 0)), (1, .int y1), (2, .int y2), (3, .int y3), (6, .int y6)] → Mod_copyFile_b49 FU n y1 y2 y3 y6 g = some q → W p l e (rmN 2) s m args below meth c H locs 0 0 (MQ below (fxQv D (tyM ca) A (wM ad ca q)) args s 0 0 A) (F0 m 49 ls []) := by
  have hx := X.1
  have hb := X.2.1
  intro n
  induction n with
  | zero =>
    intro y1 y2 y3 y6 g H locs ls hP hD hS hl h
    cases h
  | succ n ih =>
    intro y1 y2 y3 y6 g H locs ls hP hD hS hl h
    have h := h
    rw [Mod_copyFile_b49.eq_2] at h
    refine lv_iload hx hb d_Mod_copyFile_49 (lv_at hl 4 rfl) ?_
    refine lv_sipush (v := 391) hx hb d_Mod_copyFile_51 (by decide) ?_
    refine lv_icmp_ge (tgt := 118) hx hb d_Mod_copyFile_54 (by decide) (fun hc => ?_) (fun hc => ?_)
    · have h := if_t hc h
      cases h
      exact fx_vret X hP hD hS d_Mod_copyFile_118
    · have h := if_f hc h
      refine lv_aload_n hx hb d_Mod_copyFile_57 rfl (lv_at hl 0 rfl) ?_
      refine gM_mod_piece X hP d_Mod_copyFile_58 ?_
      refine lv_iload_n hx hb d_Mod_copyFile_61 rfl (lv_at hl 2 rfl) ?_
      refine lv_iload_n hx hb d_Mod_copyFile_62 rfl (lv_at hl 1 rfl) ?_
      refine lv_iload hx hb d_Mod_copyFile_63 (lv_at hl 4 rfl) ?_
      obtain ⟨v5, e1, h⟩ := bd_some h
      refine fx_i X (fx_runS X (m_Mod_at e1 _) (As := [.int y2, .int y1, .int y6]) hP hD ks_Mod_82 ⟨Nat.le_of_ble_eq_true rfl, Nat.le_of_ble_eq_true rfl⟩ rfl hl.1 rfl (Nat.le_of_ble_eq_true rfl) d_Mod_copyFile_65) hD hS (fun H locs hP hD hS => ?_)
      obtain ⟨v6, e1, h⟩ := bd_some h
      refine rM_8 X hP e1 d_Mod_copyFile_68 ?_
      refine lv_istore hx hb d_Mod_copyFile_69 hl (by decide) rfl (fun ls hl => ?_)
      have hl : lv_has ls 8 [(7, .int v6), (0, .ref (ad 0)), (1, .int y1), (2, .int y2), (3, .int y3), (6, .int y6)] := hl
      refine lv_iload hx hb d_Mod_copyFile_71 (lv_at hl 0 rfl) ?_
      refine lv_if_lt (tgt := 87) hx hb d_Mod_copyFile_73 (by decide) (fun hc => ?_) (fun hc => ?_)
      · have h := if_t hc h
        exact v_Mod_copyFile_87 X ih hP hD hS (lv_sub hl [1, 2, 3, 4, 5, 0] rfl) h
      · have h := if_f hc h
        refine lv_aload_n hx hb d_Mod_copyFile_76 rfl (lv_at hl 1 rfl) ?_
        refine gM_mod_owners X hP d_Mod_copyFile_77 ?_
        refine lv_iload hx hb d_Mod_copyFile_80 (lv_at hl 0 rfl) ?_
        refine lv_dup2_11 hx hb d_Mod_copyFile_82 rfl rfl ?_
        obtain ⟨v7, e1, h⟩ := bd_some h
        refine rM_10 X hP e1 d_Mod_copyFile_83 ?_
        refine lv_iconst (v := 1) hx hb d_Mod_copyFile_84 (by decide) ?_
        refine lv_iadd hx hb d_Mod_copyFile_85 ?_
        obtain ⟨g8, e1, h⟩ := bd_some h
        refine sM_10 X hP hD hS e1 d_Mod_copyFile_86 (fun H locs hP hD hS => ?_)
        exact v_Mod_copyFile_87 X ih hP hD hS (lv_sub hl [1, 2, 3, 4, 5, 0] rfl) h
set_option maxHeartbeats 4000000 in
set_option maxRecDepth 100000 in
theorem m_Mod_copyFile {l : Launch} {D : va_G} {ad : Nat → Nat} {ca : Nat → ClassId} {FU : Nat} {x1 : Int32} {x2 : Int32} {x3 : Int32} {g : St} {q : St} (h : Mod_copyFile FU x1 x2 x3 g = some q) : CV l ⟨"FlashFilesModel", "copyFile", "(III)V"⟩ prog_12_method_9_code 8 2 D (tyM ca) (wM ad ca g) [.ref (ad 0), .int x1, .int x2, .int x3] (wM ad ca q) := by
  intro sz
  refine Met.fx (Qc := fun A => fxQv D (tyM ca) A (wM ad ca q)) (by decide) (Nat.le_of_ble_eq_true rfl) ?_
  intro p e s m below meth c A ls X hP hD hl
  have hl : lv_has ls 8 [(0, .ref (ad 0)), (1, .int x1), (2, .int x2), (3, .int x3)] := hl
  have hS : va_S A s.heap s.heap [] := va_S.rf
  have hx := X.1
  have hb := X.2.1
  unfold Mod_copyFile at h
  refine lv_sipush (v := 251) hx hb d_Mod_copyFile_0 (by decide) ?_
  refine lv_iload_n hx hb d_Mod_copyFile_3 rfl (lv_at hl 2 rfl) ?_
  refine lv_imul hx hb d_Mod_copyFile_4 ?_
  refine lv_iload_n hx hb d_Mod_copyFile_5 rfl (lv_at hl 1 rfl) ?_
  refine lv_iadd hx hb d_Mod_copyFile_6 ?_
  refine lv_istore hx hb d_Mod_copyFile_7 hl (by decide) rfl (fun ls hl => ?_)
  have hl : lv_has ls 8 [(4, .int (((251 : Int32) * x2) + x1)), (0, .ref (ad 0)), (1, .int x1), (2, .int x2), (3, .int x3)] := hl
  refine lv_sipush (v := 251) hx hb d_Mod_copyFile_9 (by decide) ?_
  refine lv_iload_n hx hb d_Mod_copyFile_12 rfl (lv_at hl 4 rfl) ?_
  refine lv_imul hx hb d_Mod_copyFile_13 ?_
  refine lv_iload_n hx hb d_Mod_copyFile_14 rfl (lv_at hl 2 rfl) ?_
  refine lv_iadd hx hb d_Mod_copyFile_15 ?_
  refine lv_istore hx hb d_Mod_copyFile_16 hl (by decide) rfl (fun ls hl => ?_)
  have hl : lv_has ls 8 [(5, .int (((251 : Int32) * x3) + x1)), (4, .int (((251 : Int32) * x2) + x1)), (0, .ref (ad 0)), (1, .int x1), (2, .int x2), (3, .int x3)] := hl
  refine lv_aload_n hx hb d_Mod_copyFile_18 rfl (lv_at hl 2 rfl) ?_
  refine gM_mod_size X hP d_Mod_copyFile_19 ?_
  refine lv_iload hx hb d_Mod_copyFile_22 (lv_at hl 0 rfl) ?_
  refine lv_aload_n hx hb d_Mod_copyFile_24 rfl (lv_at hl 2 rfl) ?_
  refine gM_mod_size X hP d_Mod_copyFile_25 ?_
  refine lv_iload hx hb d_Mod_copyFile_28 (lv_at hl 1 rfl) ?_
  obtain ⟨v9, e1, h⟩ := bd_some h
  refine rM_3 X hP e1 d_Mod_copyFile_30 ?_
  obtain ⟨g10, e1, h⟩ := bd_some h
  refine sM_3 X hP hD hS e1 d_Mod_copyFile_31 (fun H locs hP hD hS => ?_)
  refine lv_aload_n hx hb d_Mod_copyFile_32 rfl (lv_at hl 2 rfl) ?_
  refine gM_mod_small X hP d_Mod_copyFile_33 ?_
  refine lv_iload hx hb d_Mod_copyFile_36 (lv_at hl 0 rfl) ?_
  refine lv_aload_n hx hb d_Mod_copyFile_38 rfl (lv_at hl 2 rfl) ?_
  refine gM_mod_small X hP d_Mod_copyFile_39 ?_
  refine lv_iload hx hb d_Mod_copyFile_42 (lv_at hl 1 rfl) ?_
  obtain ⟨v11, e1, h⟩ := bd_some h
  refine rM_5 X hP e1 d_Mod_copyFile_44 ?_
  obtain ⟨g12, e1, h⟩ := bd_some h
  refine sM_5 X hP hD hS e1 d_Mod_copyFile_45 (fun H locs hP hD hS => ?_)
  refine lv_iconst (v := 0) hx hb d_Mod_copyFile_46 (by decide) ?_
  refine lv_istore hx hb d_Mod_copyFile_47 hl (by decide) rfl (fun ls hl => ?_)
  have hl : lv_has ls 8 [(6, .int (0 : Int32)), (5, .int (((251 : Int32) * x3) + x1)), (4, .int (((251 : Int32) * x2) + x1)), (0, .ref (ad 0)), (1, .int x1), (2, .int x2), (3, .int x3)] := hl
  exact v_Mod_copyFile_49 X  _ _ _ _ _ _ _ _ _ hP hD hS (lv_sub hl [3, 4, 5, 6, 0] rfl) h
theorem d_Mod_drop_0 : decode prog_12_method_10_code 0 = .ok (.aload_n 0, 1) := by decide +kernel
theorem d_Mod_drop_1 : decode prog_12_method_10_code 1 = .ok (.getfield 20, 3) := by decide +kernel
theorem d_Mod_drop_4 : decode prog_12_method_10_code 4 = .ok (.sipush 251, 3) := by decide +kernel
theorem d_Mod_drop_7 : decode prog_12_method_10_code 7 = .ok (.iload_n 2, 1) := by decide +kernel
theorem d_Mod_drop_8 : decode prog_12_method_10_code 8 = .ok (.imul, 1) := by decide +kernel
theorem d_Mod_drop_9 : decode prog_12_method_10_code 9 = .ok (.iload_n 1, 1) := by decide +kernel
theorem d_Mod_drop_10 : decode prog_12_method_10_code 10 = .ok (.iadd, 1) := by decide +kernel
theorem d_Mod_drop_11 : decode prog_12_method_10_code 11 = .ok (.iconst 0, 1) := by decide +kernel
theorem d_Mod_drop_12 : decode prog_12_method_10_code 12 = .ok (.iastore, 1) := by decide +kernel
theorem d_Mod_drop_13 : decode prog_12_method_10_code 13 = .ok (.aload_n 0, 1) := by decide +kernel
theorem d_Mod_drop_14 : decode prog_12_method_10_code 14 = .ok (.getfield 24, 3) := by decide +kernel
theorem d_Mod_drop_17 : decode prog_12_method_10_code 17 = .ok (.sipush 251, 3) := by decide +kernel
theorem d_Mod_drop_20 : decode prog_12_method_10_code 20 = .ok (.iload_n 2, 1) := by decide +kernel
theorem d_Mod_drop_21 : decode prog_12_method_10_code 21 = .ok (.imul, 1) := by decide +kernel
theorem d_Mod_drop_22 : decode prog_12_method_10_code 22 = .ok (.iload_n 1, 1) := by decide +kernel
theorem d_Mod_drop_23 : decode prog_12_method_10_code 23 = .ok (.iadd, 1) := by decide +kernel
theorem d_Mod_drop_24 : decode prog_12_method_10_code 24 = .ok (.iconst 0, 1) := by decide +kernel
theorem d_Mod_drop_25 : decode prog_12_method_10_code 25 = .ok (.iastore, 1) := by decide +kernel
theorem d_Mod_drop_26 : decode prog_12_method_10_code 26 = .ok (.iconst 0, 1) := by decide +kernel
theorem d_Mod_drop_27 : decode prog_12_method_10_code 27 = .ok (.istore_n 3, 1) := by decide +kernel
theorem d_Mod_drop_28 : decode prog_12_method_10_code 28 = .ok (.iload_n 3, 1) := by decide +kernel
theorem d_Mod_drop_29 : decode prog_12_method_10_code 29 = .ok (.sipush 391, 3) := by decide +kernel
theorem d_Mod_drop_32 : decode prog_12_method_10_code 32 = .ok (.if_icmp .ge 19, 3) := by decide +kernel
theorem d_Mod_drop_35 : decode prog_12_method_10_code 35 = .ok (.aload_n 0, 1) := by decide +kernel
theorem d_Mod_drop_36 : decode prog_12_method_10_code 36 = .ok (.iload_n 2, 1) := by decide +kernel
theorem d_Mod_drop_37 : decode prog_12_method_10_code 37 = .ok (.iload_n 1, 1) := by decide +kernel
theorem d_Mod_drop_38 : decode prog_12_method_10_code 38 = .ok (.iload_n 3, 1) := by decide +kernel
theorem d_Mod_drop_39 : decode prog_12_method_10_code 39 = .ok (.invokestatic 82, 3) := by decide +kernel
theorem d_Mod_drop_42 : decode prog_12_method_10_code 42 = .ok (.invokevirtual 90, 3) := by decide +kernel
theorem d_Mod_drop_45 : decode prog_12_method_10_code 45 = .ok (.iinc 3 1, 3) := by decide +kernel
theorem d_Mod_drop_48 : decode prog_12_method_10_code 48 = .ok (.goto (-20), 3) := by decide +kernel
theorem d_Mod_drop_51 : decode prog_12_method_10_code 51 = .ok (.return_, 1) := by decide +kernel
set_option maxHeartbeats 4000000 in
set_option maxRecDepth 100000 in
theorem v_Mod_drop_28 {p : Program} {l : Launch} {e : Env} {s : State} {m : MethodId} {args : Array Value} {below : List Frame} {meth : Method} {c : Code} {D : va_G} {ad : Nat → Nat} {ca : Nat → ClassId} {A : Nat → Prop} {FU : Nat} {q : St} (X : FX p s m meth c prog_12_method_10_code 4 none "FlashFilesModel" D (tyM ca) A) : ∀ (n : Nat), ∀ (y1 y2 y3 : Int32) (g : St) (H : Heap) (locs : List Loc) (ls : Array Slot), va_P D cls (wM ad ca g) H → va_D A (wM ad ca g) → va_S A s.heap H locs → lv_has ls 4 [(0, .ref (ad 0)), (1, .int y1), (2, .int y2), (3, .int y3)] → Mod_drop_b28 FU n y1 y2 y3 g = some q → W p l e (rmN 2) s m args below meth c H locs 0 0 (MQ below (fxQv D (tyM ca) A (wM ad ca q)) args s 0 0 A) (F0 m 28 ls []) := by
  have hx := X.1
  have hb := X.2.1
  intro n
  induction n with
  | zero =>
    intro y1 y2 y3 g H locs ls hP hD hS hl h
    cases h
  | succ n ih =>
    intro y1 y2 y3 g H locs ls hP hD hS hl h
    have h := h
    rw [Mod_drop_b28.eq_2] at h
    refine lv_iload_n hx hb d_Mod_drop_28 rfl (lv_at hl 3 rfl) ?_
    refine lv_sipush (v := 391) hx hb d_Mod_drop_29 (by decide) ?_
    refine lv_icmp_ge (tgt := 51) hx hb d_Mod_drop_32 (by decide) (fun hc => ?_) (fun hc => ?_)
    · have h := if_t hc h
      cases h
      exact fx_vret X hP hD hS d_Mod_drop_51
    · have h := if_f hc h
      refine lv_aload_n hx hb d_Mod_drop_35 rfl (lv_at hl 0 rfl) ?_
      refine lv_iload_n hx hb d_Mod_drop_36 rfl (lv_at hl 2 rfl) ?_
      refine lv_iload_n hx hb d_Mod_drop_37 rfl (lv_at hl 1 rfl) ?_
      refine lv_iload_n hx hb d_Mod_drop_38 rfl (lv_at hl 3 rfl) ?_
      obtain ⟨v1, e1, h⟩ := bd_some h
      refine fx_i X (fx_runS X (m_Mod_at e1 _) (As := [.int y2, .int y1, .int y3]) hP hD ks_Mod_82 ⟨Nat.le_of_ble_eq_true rfl, Nat.le_of_ble_eq_true rfl⟩ rfl hl.1 rfl (Nat.le_of_ble_eq_true rfl) d_Mod_drop_39) hD hS (fun H locs hP hD hS => ?_)
      obtain ⟨p2, e1, h⟩ := bd_some h
      refine fx_v X (fx_runV (As := [.int v1]) X (m_Mod_leave e1 _) hP hD kv_Mod_90 ⟨Nat.le_of_ble_eq_true rfl, Nat.le_of_ble_eq_true rfl⟩ 0 rfl rfl rfl hl.1 rfl (Nat.le_of_ble_eq_true rfl) d_Mod_drop_42) hD hS (fun H locs hP hD hS => ?_)
      refine lv_iinc (k := 3) (v := (y3 + (1 : Int32))) hx hb d_Mod_drop_45 hl rfl (oi_1 _) (by decide) rfl (fun ls hl => ?_)
      have hl : lv_has ls 4 [(3, .int (y3 + (1 : Int32))), (0, .ref (ad 0)), (1, .int y1), (2, .int y2)] := hl
      refine lv_goto (tgt := 28) hx hb d_Mod_drop_48 (by decide) ?_
      exact ih _ _ _ _ _ _ _ hP hD hS (lv_sub hl [1, 2, 3, 0] rfl) h
set_option maxHeartbeats 4000000 in
set_option maxRecDepth 100000 in
theorem m_Mod_drop {l : Launch} {D : va_G} {ad : Nat → Nat} {ca : Nat → ClassId} {FU : Nat} {x1 : Int32} {x2 : Int32} {g : St} {q : St} (h : Mod_drop FU x1 x2 g = some q) : CV l ⟨"FlashFilesModel", "drop", "(II)V"⟩ prog_12_method_10_code 4 2 D (tyM ca) (wM ad ca g) [.ref (ad 0), .int x1, .int x2] (wM ad ca q) := by
  intro sz
  refine Met.fx (Qc := fun A => fxQv D (tyM ca) A (wM ad ca q)) (by decide) (Nat.le_of_ble_eq_true rfl) ?_
  intro p e s m below meth c A ls X hP hD hl
  have hl : lv_has ls 4 [(0, .ref (ad 0)), (1, .int x1), (2, .int x2)] := hl
  have hS : va_S A s.heap s.heap [] := va_S.rf
  have hx := X.1
  have hb := X.2.1
  unfold Mod_drop at h
  refine lv_aload_n hx hb d_Mod_drop_0 rfl (lv_at hl 0 rfl) ?_
  refine gM_mod_kind X hP d_Mod_drop_1 ?_
  refine lv_sipush (v := 251) hx hb d_Mod_drop_4 (by decide) ?_
  refine lv_iload_n hx hb d_Mod_drop_7 rfl (lv_at hl 2 rfl) ?_
  refine lv_imul hx hb d_Mod_drop_8 ?_
  refine lv_iload_n hx hb d_Mod_drop_9 rfl (lv_at hl 1 rfl) ?_
  refine lv_iadd hx hb d_Mod_drop_10 ?_
  refine lv_iconst (v := 0) hx hb d_Mod_drop_11 (by decide) ?_
  obtain ⟨g3, e1, h⟩ := bd_some h
  refine sM_2 X hP hD hS e1 d_Mod_drop_12 (fun H locs hP hD hS => ?_)
  refine lv_aload_n hx hb d_Mod_drop_13 rfl (lv_at hl 0 rfl) ?_
  refine gM_mod_size X hP d_Mod_drop_14 ?_
  refine lv_sipush (v := 251) hx hb d_Mod_drop_17 (by decide) ?_
  refine lv_iload_n hx hb d_Mod_drop_20 rfl (lv_at hl 2 rfl) ?_
  refine lv_imul hx hb d_Mod_drop_21 ?_
  refine lv_iload_n hx hb d_Mod_drop_22 rfl (lv_at hl 1 rfl) ?_
  refine lv_iadd hx hb d_Mod_drop_23 ?_
  refine lv_iconst (v := 0) hx hb d_Mod_drop_24 (by decide) ?_
  obtain ⟨g4, e1, h⟩ := bd_some h
  refine sM_3 X hP hD hS e1 d_Mod_drop_25 (fun H locs hP hD hS => ?_)
  refine lv_iconst (v := 0) hx hb d_Mod_drop_26 (by decide) ?_
  refine lv_istore_n hx hb d_Mod_drop_27 rfl hl (by decide) rfl (fun ls hl => ?_)
  have hl : lv_has ls 4 [(3, .int (0 : Int32)), (0, .ref (ad 0)), (1, .int x1), (2, .int x2)] := hl
  exact v_Mod_drop_28 X  _ _ _ _ _ _ _ _ hP hD hS (lv_sub hl [1, 2, 3, 0] rfl) h
theorem d_Mod_nodesFor_0 : decode prog_12_method_11_code 0 = .ok (.iload_n 0, 1) := by decide +kernel
theorem d_Mod_nodesFor_1 : decode prog_12_method_11_code 1 = .ok (.sipush 255, 3) := by decide +kernel
theorem d_Mod_nodesFor_4 : decode prog_12_method_11_code 4 = .ok (.iadd, 1) := by decide +kernel
theorem d_Mod_nodesFor_5 : decode prog_12_method_11_code 5 = .ok (.sipush 256, 3) := by decide +kernel
theorem d_Mod_nodesFor_8 : decode prog_12_method_11_code 8 = .ok (.idiv, 1) := by decide +kernel
theorem d_Mod_nodesFor_9 : decode prog_12_method_11_code 9 = .ok (.istore_n 1, 1) := by decide +kernel
theorem d_Mod_nodesFor_10 : decode prog_12_method_11_code 10 = .ok (.iload_n 1, 1) := by decide +kernel
theorem d_Mod_nodesFor_11 : decode prog_12_method_11_code 11 = .ok (.bipush 20, 2) := by decide +kernel
theorem d_Mod_nodesFor_13 : decode prog_12_method_11_code 13 = .ok (.if_icmp .gt 7, 3) := by decide +kernel
theorem d_Mod_nodesFor_16 : decode prog_12_method_11_code 16 = .ok (.iconst 0, 1) := by decide +kernel
theorem d_Mod_nodesFor_17 : decode prog_12_method_11_code 17 = .ok (.goto 37, 3) := by decide +kernel
theorem d_Mod_nodesFor_20 : decode prog_12_method_11_code 20 = .ok (.iload_n 1, 1) := by decide +kernel
theorem d_Mod_nodesFor_21 : decode prog_12_method_11_code 21 = .ok (.bipush 76, 2) := by decide +kernel
theorem d_Mod_nodesFor_23 : decode prog_12_method_11_code 23 = .ok (.if_icmp .gt 7, 3) := by decide +kernel
theorem d_Mod_nodesFor_26 : decode prog_12_method_11_code 26 = .ok (.iconst 1, 1) := by decide +kernel
theorem d_Mod_nodesFor_27 : decode prog_12_method_11_code 27 = .ok (.goto 27, 3) := by decide +kernel
theorem d_Mod_nodesFor_30 : decode prog_12_method_11_code 30 = .ok (.iload_n 1, 1) := by decide +kernel
theorem d_Mod_nodesFor_31 : decode prog_12_method_11_code 31 = .ok (.sipush 132, 3) := by decide +kernel
theorem d_Mod_nodesFor_34 : decode prog_12_method_11_code 34 = .ok (.if_icmp .gt 7, 3) := by decide +kernel
theorem d_Mod_nodesFor_37 : decode prog_12_method_11_code 37 = .ok (.iconst 2, 1) := by decide +kernel
theorem d_Mod_nodesFor_38 : decode prog_12_method_11_code 38 = .ok (.goto 16, 3) := by decide +kernel
theorem d_Mod_nodesFor_41 : decode prog_12_method_11_code 41 = .ok (.iconst 3, 1) := by decide +kernel
theorem d_Mod_nodesFor_42 : decode prog_12_method_11_code 42 = .ok (.iload_n 1, 1) := by decide +kernel
theorem d_Mod_nodesFor_43 : decode prog_12_method_11_code 43 = .ok (.sipush 132, 3) := by decide +kernel
theorem d_Mod_nodesFor_46 : decode prog_12_method_11_code 46 = .ok (.isub, 1) := by decide +kernel
theorem d_Mod_nodesFor_47 : decode prog_12_method_11_code 47 = .ok (.bipush 55, 2) := by decide +kernel
theorem d_Mod_nodesFor_49 : decode prog_12_method_11_code 49 = .ok (.iadd, 1) := by decide +kernel
theorem d_Mod_nodesFor_50 : decode prog_12_method_11_code 50 = .ok (.bipush 56, 2) := by decide +kernel
theorem d_Mod_nodesFor_52 : decode prog_12_method_11_code 52 = .ok (.idiv, 1) := by decide +kernel
theorem d_Mod_nodesFor_53 : decode prog_12_method_11_code 53 = .ok (.iadd, 1) := by decide +kernel
theorem d_Mod_nodesFor_54 : decode prog_12_method_11_code 54 = .ok (.ireturn, 1) := by decide +kernel
set_option maxHeartbeats 4000000 in
set_option maxRecDepth 100000 in
theorem m_Mod_nodesFor {l : Launch} {D : va_G} {ad : Nat → Nat} {ca : Nat → ClassId} {FU : Nat} {x0 : Int32} {g : St} {q : Int32} (h : Mod_nodesFor FU x0 g = some q) : CI l ⟨"FlashFilesModel", "nodesFor", "(I)I"⟩ prog_12_method_11_code 2 1 (some .int) D (tyM ca) (wM ad ca g) [.int x0] q (wM ad ca g) := by
  intro sz
  refine Met.fx (Qc := fun A => fxQi D (tyM ca) A (wM ad ca g) q) (by decide) (Nat.le_of_ble_eq_true rfl) ?_
  intro p e s m below meth c A ls X hP hD hl
  have hl : lv_has ls 2 [(0, .int x0)] := hl
  have hS : va_S A s.heap s.heap [] := va_S.rf
  have hx := X.1
  have hb := X.2.1
  unfold Mod_nodesFor at h
  refine lv_iload_n hx hb d_Mod_nodesFor_0 rfl (lv_at hl 0 rfl) ?_
  refine lv_sipush (v := 255) hx hb d_Mod_nodesFor_1 (by decide) ?_
  refine lv_iadd hx hb d_Mod_nodesFor_4 ?_
  refine lv_sipush (v := 256) hx hb d_Mod_nodesFor_5 (by decide) ?_
  refine lv_idiv hx hb d_Mod_nodesFor_8 (by decide) ?_
  refine lv_istore_n hx hb d_Mod_nodesFor_9 rfl hl (by decide) rfl (fun ls hl => ?_)
  have hl : lv_has ls 2 [(1, .int ((x0 + (255 : Int32)) / (256 : Int32))), (0, .int x0)] := hl
  refine lv_iload_n hx hb d_Mod_nodesFor_10 rfl (lv_at hl 0 rfl) ?_
  refine lv_bipush (v := 20) hx hb d_Mod_nodesFor_11 (by decide) ?_
  refine lv_icmp_gt (tgt := 20) hx hb d_Mod_nodesFor_13 (by decide) (fun hc => ?_) (fun hc => ?_)
  · have h := if_t hc h
    refine lv_iload_n hx hb d_Mod_nodesFor_20 rfl (lv_at hl 0 rfl) ?_
    refine lv_bipush (v := 76) hx hb d_Mod_nodesFor_21 (by decide) ?_
    refine lv_icmp_gt (tgt := 30) hx hb d_Mod_nodesFor_23 (by decide) (fun hc => ?_) (fun hc => ?_)
    · have h := if_t hc h
      refine lv_iload_n hx hb d_Mod_nodesFor_30 rfl (lv_at hl 0 rfl) ?_
      refine lv_sipush (v := 132) hx hb d_Mod_nodesFor_31 (by decide) ?_
      refine lv_icmp_gt (tgt := 41) hx hb d_Mod_nodesFor_34 (by decide) (fun hc => ?_) (fun hc => ?_)
      · have h := if_t hc h
        refine lv_iconst (v := 3) hx hb d_Mod_nodesFor_41 (by decide) ?_
        refine lv_iload_n hx hb d_Mod_nodesFor_42 rfl (lv_at hl 0 rfl) ?_
        refine lv_sipush (v := 132) hx hb d_Mod_nodesFor_43 (by decide) ?_
        refine lv_isub hx hb d_Mod_nodesFor_46 ?_
        refine lv_bipush (v := 55) hx hb d_Mod_nodesFor_47 (by decide) ?_
        refine lv_iadd hx hb d_Mod_nodesFor_49 ?_
        refine lv_bipush (v := 56) hx hb d_Mod_nodesFor_50 (by decide) ?_
        refine lv_idiv hx hb d_Mod_nodesFor_52 (by decide) ?_
        refine lv_iadd hx hb d_Mod_nodesFor_53 ?_
        cases h
        exact fx_iret X hP hD hS d_Mod_nodesFor_54
      · have h := if_f hc h
        refine lv_iconst (v := 2) hx hb d_Mod_nodesFor_37 (by decide) ?_
        refine lv_goto (tgt := 54) hx hb d_Mod_nodesFor_38 (by decide) ?_
        cases h
        exact fx_iret X hP hD hS d_Mod_nodesFor_54
    · have h := if_f hc h
      refine lv_iconst (v := 1) hx hb d_Mod_nodesFor_26 (by decide) ?_
      refine lv_goto (tgt := 54) hx hb d_Mod_nodesFor_27 (by decide) ?_
      cases h
      exact fx_iret X hP hD hS d_Mod_nodesFor_54
  · have h := if_f hc h
    refine lv_iconst (v := 0) hx hb d_Mod_nodesFor_16 (by decide) ?_
    refine lv_goto (tgt := 54) hx hb d_Mod_nodesFor_17 (by decide) ?_
    cases h
    exact fx_iret X hP hD hS d_Mod_nodesFor_54
theorem d_Mod_namesOf_0 : decode prog_12_method_12_code 0 = .ok (.iconst 0, 1) := by decide +kernel
theorem d_Mod_namesOf_1 : decode prog_12_method_12_code 1 = .ok (.istore_n 2, 1) := by decide +kernel
theorem d_Mod_namesOf_2 : decode prog_12_method_12_code 2 = .ok (.iconst 0, 1) := by decide +kernel
theorem d_Mod_namesOf_3 : decode prog_12_method_12_code 3 = .ok (.istore_n 3, 1) := by decide +kernel
theorem d_Mod_namesOf_4 : decode prog_12_method_12_code 4 = .ok (.iload_n 3, 1) := by decide +kernel
theorem d_Mod_namesOf_5 : decode prog_12_method_12_code 5 = .ok (.aload_n 0, 1) := by decide +kernel
theorem d_Mod_namesOf_6 : decode prog_12_method_12_code 6 = .ok (.getfield 94, 3) := by decide +kernel
theorem d_Mod_namesOf_9 : decode prog_12_method_12_code 9 = .ok (.if_icmp .ge 27, 3) := by decide +kernel
theorem d_Mod_namesOf_12 : decode prog_12_method_12_code 12 = .ok (.iload_n 2, 1) := by decide +kernel
theorem d_Mod_namesOf_13 : decode prog_12_method_12_code 13 = .ok (.aload_n 0, 1) := by decide +kernel
theorem d_Mod_namesOf_14 : decode prog_12_method_12_code 14 = .ok (.getfield 51, 3) := by decide +kernel
theorem d_Mod_namesOf_17 : decode prog_12_method_12_code 17 = .ok (.iload_n 3, 1) := by decide +kernel
theorem d_Mod_namesOf_18 : decode prog_12_method_12_code 18 = .ok (.iaload, 1) := by decide +kernel
theorem d_Mod_namesOf_19 : decode prog_12_method_12_code 19 = .ok (.iload_n 1, 1) := by decide +kernel
theorem d_Mod_namesOf_20 : decode prog_12_method_12_code 20 = .ok (.if_icmp .ne 7, 3) := by decide +kernel
theorem d_Mod_namesOf_23 : decode prog_12_method_12_code 23 = .ok (.iconst 1, 1) := by decide +kernel
theorem d_Mod_namesOf_24 : decode prog_12_method_12_code 24 = .ok (.goto 4, 3) := by decide +kernel
theorem d_Mod_namesOf_27 : decode prog_12_method_12_code 27 = .ok (.iconst 0, 1) := by decide +kernel
theorem d_Mod_namesOf_28 : decode prog_12_method_12_code 28 = .ok (.iadd, 1) := by decide +kernel
theorem d_Mod_namesOf_29 : decode prog_12_method_12_code 29 = .ok (.istore_n 2, 1) := by decide +kernel
theorem d_Mod_namesOf_30 : decode prog_12_method_12_code 30 = .ok (.iinc 3 1, 3) := by decide +kernel
theorem d_Mod_namesOf_33 : decode prog_12_method_12_code 33 = .ok (.goto (-29), 3) := by decide +kernel
theorem d_Mod_namesOf_36 : decode prog_12_method_12_code 36 = .ok (.iload_n 2, 1) := by decide +kernel
theorem d_Mod_namesOf_37 : decode prog_12_method_12_code 37 = .ok (.ireturn, 1) := by decide +kernel
set_option maxHeartbeats 4000000 in
set_option maxRecDepth 100000 in
theorem v_Mod_namesOf_28 {p : Program} {l : Launch} {e : Env} {s : State} {m : MethodId} {args : Array Value} {below : List Frame} {meth : Method} {c : Code} {D : va_G} {ad : Nat → Nat} {ca : Nat → ClassId} {A : Nat → Prop} {FU : Nat} {q : Int32} {g : St} (X : FX p s m meth c prog_12_method_12_code 4 (some .int) "FlashFilesModel" D (tyM ca) A) {k4 : Int32 → Int32 → Int32 → St → Option (Int32)} (hk4 : ∀ (y1 y2 y3 : Int32) (H : Heap) (locs : List Loc) (ls : Array Slot), va_P D cls (wM ad ca g) H → va_D A (wM ad ca g) → va_S A s.heap H locs → lv_has ls 4 [(0, .ref (ad 0)), (1, .int y1), (2, .int y2), (3, .int y3)] → k4 y1 y2 y3 g = some q → W p l e (rmN 1) s m args below meth c H locs 0 0 (MQ below (fxQi D (tyM ca) A (wM ad ca g) q) args s 0 0 A) (F0 m 4 ls [])) {y1 : Int32} {y3 : Int32} {z0 : Int32} {z1 : Int32}  {H : Heap} {locs : List Loc} {ls : Array Slot} (hP : va_P D cls (wM ad ca g) H) (hD : va_D A (wM ad ca g)) (hS : va_S A s.heap H locs) (hl : lv_has ls 4 [(0, .ref (ad 0)), (1, .int y1), (3, .int y3)]) (h : Mod_namesOf_b28 FU k4 y1 y3 z0 z1 g = some q) : W p l e (rmN 1) s m args below meth c H locs 0 0 (MQ below (fxQi D (tyM ca) A (wM ad ca g) q) args s 0 0 A) (F0 m 28 ls [.int z0, .int z1]) := by
  have hx := X.1
  have hb := X.2.1
  unfold Mod_namesOf_b28 at h
  refine lv_iadd hx hb d_Mod_namesOf_28 ?_
  refine lv_istore_n hx hb d_Mod_namesOf_29 rfl hl (by decide) rfl (fun ls hl => ?_)
  have hl : lv_has ls 4 [(2, .int (z1 + z0)), (0, .ref (ad 0)), (1, .int y1), (3, .int y3)] := hl
  refine lv_iinc (k := 3) (v := (y3 + (1 : Int32))) hx hb d_Mod_namesOf_30 hl rfl (oi_1 _) (by decide) rfl (fun ls hl => ?_)
  have hl : lv_has ls 4 [(3, .int (y3 + (1 : Int32))), (2, .int (z1 + z0)), (0, .ref (ad 0)), (1, .int y1)] := hl
  refine lv_goto (tgt := 4) hx hb d_Mod_namesOf_33 (by decide) ?_
  exact hk4 _ _ _ _ _ _ hP hD hS (lv_sub hl [2, 3, 1, 0] rfl) h
set_option maxHeartbeats 4000000 in
set_option maxRecDepth 100000 in
theorem v_Mod_namesOf_4 {p : Program} {l : Launch} {e : Env} {s : State} {m : MethodId} {args : Array Value} {below : List Frame} {meth : Method} {c : Code} {D : va_G} {ad : Nat → Nat} {ca : Nat → ClassId} {A : Nat → Prop} {FU : Nat} {q : Int32} {g : St} (X : FX p s m meth c prog_12_method_12_code 4 (some .int) "FlashFilesModel" D (tyM ca) A) : ∀ (n : Nat), ∀ (y1 y2 y3 : Int32) (H : Heap) (locs : List Loc) (ls : Array Slot), va_P D cls (wM ad ca g) H → va_D A (wM ad ca g) → va_S A s.heap H locs → lv_has ls 4 [(0, .ref (ad 0)), (1, .int y1), (2, .int y2), (3, .int y3)] → Mod_namesOf_b4 FU n y1 y2 y3 g = some q → W p l e (rmN 1) s m args below meth c H locs 0 0 (MQ below (fxQi D (tyM ca) A (wM ad ca g) q) args s 0 0 A) (F0 m 4 ls []) := by
  have hx := X.1
  have hb := X.2.1
  intro n
  induction n with
  | zero =>
    intro y1 y2 y3 H locs ls hP hD hS hl h
    cases h
  | succ n ih =>
    intro y1 y2 y3 H locs ls hP hD hS hl h
    have h := h
    rw [Mod_namesOf_b4.eq_2] at h
    refine lv_iload_n hx hb d_Mod_namesOf_4 rfl (lv_at hl 3 rfl) ?_
    refine lv_aload_n hx hb d_Mod_namesOf_5 rfl (lv_at hl 0 rfl) ?_
    refine gM_mod_entries X hP d_Mod_namesOf_6 ?_
    refine lv_icmp_ge (tgt := 36) hx hb d_Mod_namesOf_9 (by decide) (fun hc => ?_) (fun hc => ?_)
    · have h := if_t hc h
      refine lv_iload_n hx hb d_Mod_namesOf_36 rfl (lv_at hl 2 rfl) ?_
      cases h
      exact fx_iret X hP hD hS d_Mod_namesOf_37
    · have h := if_f hc h
      refine lv_iload_n hx hb d_Mod_namesOf_12 rfl (lv_at hl 2 rfl) ?_
      refine lv_aload_n hx hb d_Mod_namesOf_13 rfl (lv_at hl 0 rfl) ?_
      refine gM_mod_entryDirectory X hP d_Mod_namesOf_14 ?_
      refine lv_iload_n hx hb d_Mod_namesOf_17 rfl (lv_at hl 3 rfl) ?_
      obtain ⟨v1, e1, h⟩ := bd_some h
      refine rM_11 X hP e1 d_Mod_namesOf_18 ?_
      refine lv_iload_n hx hb d_Mod_namesOf_19 rfl (lv_at hl 1 rfl) ?_
      refine lv_icmp_ne (tgt := 27) hx hb d_Mod_namesOf_20 (by decide) (fun hc => ?_) (fun hc => ?_)
      · have h := if_f hc h
        refine lv_iconst (v := 0) hx hb d_Mod_namesOf_27 (by decide) ?_
        exact v_Mod_namesOf_28 X ih hP hD hS (lv_sub hl [0, 1, 3] rfl) h
      · have h := if_t hc h
        refine lv_iconst (v := 1) hx hb d_Mod_namesOf_23 (by decide) ?_
        refine lv_goto (tgt := 28) hx hb d_Mod_namesOf_24 (by decide) ?_
        exact v_Mod_namesOf_28 X ih hP hD hS (lv_sub hl [0, 1, 3] rfl) h
set_option maxHeartbeats 4000000 in
set_option maxRecDepth 100000 in
theorem m_Mod_namesOf {l : Launch} {D : va_G} {ad : Nat → Nat} {ca : Nat → ClassId} {FU : Nat} {x1 : Int32} {g : St} {q : Int32} (h : Mod_namesOf FU x1 g = some q) : CI l ⟨"FlashFilesModel", "namesOf", "(I)I"⟩ prog_12_method_12_code 4 1 (some .int) D (tyM ca) (wM ad ca g) [.ref (ad 0), .int x1] q (wM ad ca g) := by
  intro sz
  refine Met.fx (Qc := fun A => fxQi D (tyM ca) A (wM ad ca g) q) (by decide) (Nat.le_of_ble_eq_true rfl) ?_
  intro p e s m below meth c A ls X hP hD hl
  have hl : lv_has ls 4 [(0, .ref (ad 0)), (1, .int x1)] := hl
  have hS : va_S A s.heap s.heap [] := va_S.rf
  have hx := X.1
  have hb := X.2.1
  unfold Mod_namesOf at h
  refine lv_iconst (v := 0) hx hb d_Mod_namesOf_0 (by decide) ?_
  refine lv_istore_n hx hb d_Mod_namesOf_1 rfl hl (by decide) rfl (fun ls hl => ?_)
  have hl : lv_has ls 4 [(2, .int (0 : Int32)), (0, .ref (ad 0)), (1, .int x1)] := hl
  refine lv_iconst (v := 0) hx hb d_Mod_namesOf_2 (by decide) ?_
  refine lv_istore_n hx hb d_Mod_namesOf_3 rfl hl (by decide) rfl (fun ls hl => ?_)
  have hl : lv_has ls 4 [(3, .int (0 : Int32)), (2, .int (0 : Int32)), (0, .ref (ad 0)), (1, .int x1)] := hl
  exact v_Mod_namesOf_4 X  _ _ _ _ _ _ _ hP hD hS (lv_sub hl [2, 3, 1, 0] rfl) h
theorem d_Mod_blocksOf_0 : decode prog_12_method_13_code 0 = .ok (.aload_n 0, 1) := by decide +kernel
theorem d_Mod_blocksOf_1 : decode prog_12_method_13_code 1 = .ok (.getfield 20, 3) := by decide +kernel
theorem d_Mod_blocksOf_4 : decode prog_12_method_13_code 4 = .ok (.iload_n 1, 1) := by decide +kernel
theorem d_Mod_blocksOf_5 : decode prog_12_method_13_code 5 = .ok (.iaload, 1) := by decide +kernel
theorem d_Mod_blocksOf_6 : decode prog_12_method_13_code 6 = .ok (.ifCond .ne 5, 3) := by decide +kernel
theorem d_Mod_blocksOf_9 : decode prog_12_method_13_code 9 = .ok (.iconst 0, 1) := by decide +kernel
theorem d_Mod_blocksOf_10 : decode prog_12_method_13_code 10 = .ok (.ireturn, 1) := by decide +kernel
theorem d_Mod_blocksOf_11 : decode prog_12_method_13_code 11 = .ok (.aload_n 0, 1) := by decide +kernel
theorem d_Mod_blocksOf_12 : decode prog_12_method_13_code 12 = .ok (.getfield 20, 3) := by decide +kernel
theorem d_Mod_blocksOf_15 : decode prog_12_method_13_code 15 = .ok (.iload_n 1, 1) := by decide +kernel
theorem d_Mod_blocksOf_16 : decode prog_12_method_13_code 16 = .ok (.iaload, 1) := by decide +kernel
theorem d_Mod_blocksOf_17 : decode prog_12_method_13_code 17 = .ok (.iconst 2, 1) := by decide +kernel
theorem d_Mod_blocksOf_18 : decode prog_12_method_13_code 18 = .ok (.if_icmp .ne 11, 3) := by decide +kernel
theorem d_Mod_blocksOf_21 : decode prog_12_method_13_code 21 = .ok (.iconst 1, 1) := by decide +kernel
theorem d_Mod_blocksOf_22 : decode prog_12_method_13_code 22 = .ok (.aload_n 0, 1) := by decide +kernel
theorem d_Mod_blocksOf_23 : decode prog_12_method_13_code 23 = .ok (.iload_n 1, 1) := by decide +kernel
theorem d_Mod_blocksOf_24 : decode prog_12_method_13_code 24 = .ok (.invokevirtual 97, 3) := by decide +kernel
theorem d_Mod_blocksOf_27 : decode prog_12_method_13_code 27 = .ok (.iadd, 1) := by decide +kernel
theorem d_Mod_blocksOf_28 : decode prog_12_method_13_code 28 = .ok (.ireturn, 1) := by decide +kernel
theorem d_Mod_blocksOf_29 : decode prog_12_method_13_code 29 = .ok (.aload_n 0, 1) := by decide +kernel
theorem d_Mod_blocksOf_30 : decode prog_12_method_13_code 30 = .ok (.getfield 30, 3) := by decide +kernel
theorem d_Mod_blocksOf_33 : decode prog_12_method_13_code 33 = .ok (.iload_n 1, 1) := by decide +kernel
theorem d_Mod_blocksOf_34 : decode prog_12_method_13_code 34 = .ok (.baload, 1) := by decide +kernel
theorem d_Mod_blocksOf_35 : decode prog_12_method_13_code 35 = .ok (.ifCond .eq 5, 3) := by decide +kernel
theorem d_Mod_blocksOf_38 : decode prog_12_method_13_code 38 = .ok (.iconst 1, 1) := by decide +kernel
theorem d_Mod_blocksOf_39 : decode prog_12_method_13_code 39 = .ok (.ireturn, 1) := by decide +kernel
theorem d_Mod_blocksOf_40 : decode prog_12_method_13_code 40 = .ok (.iconst 1, 1) := by decide +kernel
theorem d_Mod_blocksOf_41 : decode prog_12_method_13_code 41 = .ok (.aload_n 0, 1) := by decide +kernel
theorem d_Mod_blocksOf_42 : decode prog_12_method_13_code 42 = .ok (.getfield 24, 3) := by decide +kernel
theorem d_Mod_blocksOf_45 : decode prog_12_method_13_code 45 = .ok (.iload_n 1, 1) := by decide +kernel
theorem d_Mod_blocksOf_46 : decode prog_12_method_13_code 46 = .ok (.iaload, 1) := by decide +kernel
theorem d_Mod_blocksOf_47 : decode prog_12_method_13_code 47 = .ok (.invokestatic 101, 3) := by decide +kernel
theorem d_Mod_blocksOf_50 : decode prog_12_method_13_code 50 = .ok (.iadd, 1) := by decide +kernel
theorem d_Mod_blocksOf_51 : decode prog_12_method_13_code 51 = .ok (.istore_n 2, 1) := by decide +kernel
theorem d_Mod_blocksOf_52 : decode prog_12_method_13_code 52 = .ok (.iconst 0, 1) := by decide +kernel
theorem d_Mod_blocksOf_53 : decode prog_12_method_13_code 53 = .ok (.istore_n 3, 1) := by decide +kernel
theorem d_Mod_blocksOf_54 : decode prog_12_method_13_code 54 = .ok (.iload_n 3, 1) := by decide +kernel
theorem d_Mod_blocksOf_55 : decode prog_12_method_13_code 55 = .ok (.sipush 391, 3) := by decide +kernel
theorem d_Mod_blocksOf_58 : decode prog_12_method_13_code 58 = .ok (.if_icmp .ge 31, 3) := by decide +kernel
theorem d_Mod_blocksOf_61 : decode prog_12_method_13_code 61 = .ok (.iload_n 2, 1) := by decide +kernel
theorem d_Mod_blocksOf_62 : decode prog_12_method_13_code 62 = .ok (.aload_n 0, 1) := by decide +kernel
theorem d_Mod_blocksOf_63 : decode prog_12_method_13_code 63 = .ok (.getfield 41, 3) := by decide +kernel
theorem d_Mod_blocksOf_66 : decode prog_12_method_13_code 66 = .ok (.iconst 0, 1) := by decide +kernel
theorem d_Mod_blocksOf_67 : decode prog_12_method_13_code 67 = .ok (.iload_n 1, 1) := by decide +kernel
theorem d_Mod_blocksOf_68 : decode prog_12_method_13_code 68 = .ok (.iload_n 3, 1) := by decide +kernel
theorem d_Mod_blocksOf_69 : decode prog_12_method_13_code 69 = .ok (.invokestatic 82, 3) := by decide +kernel
theorem d_Mod_blocksOf_72 : decode prog_12_method_13_code 72 = .ok (.iaload, 1) := by decide +kernel
theorem d_Mod_blocksOf_73 : decode prog_12_method_13_code 73 = .ok (.ifCond .lt 7, 3) := by decide +kernel
theorem d_Mod_blocksOf_76 : decode prog_12_method_13_code 76 = .ok (.iconst 1, 1) := by decide +kernel
theorem d_Mod_blocksOf_77 : decode prog_12_method_13_code 77 = .ok (.goto 4, 3) := by decide +kernel
theorem d_Mod_blocksOf_80 : decode prog_12_method_13_code 80 = .ok (.iconst 0, 1) := by decide +kernel
theorem d_Mod_blocksOf_81 : decode prog_12_method_13_code 81 = .ok (.iadd, 1) := by decide +kernel
theorem d_Mod_blocksOf_82 : decode prog_12_method_13_code 82 = .ok (.istore_n 2, 1) := by decide +kernel
theorem d_Mod_blocksOf_83 : decode prog_12_method_13_code 83 = .ok (.iinc 3 1, 3) := by decide +kernel
theorem d_Mod_blocksOf_86 : decode prog_12_method_13_code 86 = .ok (.goto (-32), 3) := by decide +kernel
theorem d_Mod_blocksOf_89 : decode prog_12_method_13_code 89 = .ok (.iload_n 2, 1) := by decide +kernel
theorem d_Mod_blocksOf_90 : decode prog_12_method_13_code 90 = .ok (.ireturn, 1) := by decide +kernel
set_option maxHeartbeats 4000000 in
set_option maxRecDepth 100000 in
theorem v_Mod_blocksOf_81 {p : Program} {l : Launch} {e : Env} {s : State} {m : MethodId} {args : Array Value} {below : List Frame} {meth : Method} {c : Code} {D : va_G} {ad : Nat → Nat} {ca : Nat → ClassId} {A : Nat → Prop} {FU : Nat} {q : Int32} {g : St} (X : FX p s m meth c prog_12_method_13_code 4 (some .int) "FlashFilesModel" D (tyM ca) A) {k54 : Int32 → Int32 → Int32 → St → Option (Int32)} (hk54 : ∀ (y1 y2 y3 : Int32) (H : Heap) (locs : List Loc) (ls : Array Slot), va_P D cls (wM ad ca g) H → va_D A (wM ad ca g) → va_S A s.heap H locs → lv_has ls 4 [(0, .ref (ad 0)), (1, .int y1), (2, .int y2), (3, .int y3)] → k54 y1 y2 y3 g = some q → W p l e (rmN 2) s m args below meth c H locs 0 0 (MQ below (fxQi D (tyM ca) A (wM ad ca g) q) args s 0 0 A) (F0 m 54 ls [])) {y1 : Int32} {y3 : Int32} {z0 : Int32} {z1 : Int32}  {H : Heap} {locs : List Loc} {ls : Array Slot} (hP : va_P D cls (wM ad ca g) H) (hD : va_D A (wM ad ca g)) (hS : va_S A s.heap H locs) (hl : lv_has ls 4 [(0, .ref (ad 0)), (1, .int y1), (3, .int y3)]) (h : Mod_blocksOf_b81 FU k54 y1 y3 z0 z1 g = some q) : W p l e (rmN 2) s m args below meth c H locs 0 0 (MQ below (fxQi D (tyM ca) A (wM ad ca g) q) args s 0 0 A) (F0 m 81 ls [.int z0, .int z1]) := by
  have hx := X.1
  have hb := X.2.1
  unfold Mod_blocksOf_b81 at h
  refine lv_iadd hx hb d_Mod_blocksOf_81 ?_
  refine lv_istore_n hx hb d_Mod_blocksOf_82 rfl hl (by decide) rfl (fun ls hl => ?_)
  have hl : lv_has ls 4 [(2, .int (z1 + z0)), (0, .ref (ad 0)), (1, .int y1), (3, .int y3)] := hl
  refine lv_iinc (k := 3) (v := (y3 + (1 : Int32))) hx hb d_Mod_blocksOf_83 hl rfl (oi_1 _) (by decide) rfl (fun ls hl => ?_)
  have hl : lv_has ls 4 [(3, .int (y3 + (1 : Int32))), (2, .int (z1 + z0)), (0, .ref (ad 0)), (1, .int y1)] := hl
  refine lv_goto (tgt := 54) hx hb d_Mod_blocksOf_86 (by decide) ?_
  exact hk54 _ _ _ _ _ _ hP hD hS (lv_sub hl [2, 3, 1, 0] rfl) h
set_option maxHeartbeats 4000000 in
set_option maxRecDepth 100000 in
theorem v_Mod_blocksOf_54 {p : Program} {l : Launch} {e : Env} {s : State} {m : MethodId} {args : Array Value} {below : List Frame} {meth : Method} {c : Code} {D : va_G} {ad : Nat → Nat} {ca : Nat → ClassId} {A : Nat → Prop} {FU : Nat} {q : Int32} {g : St} (X : FX p s m meth c prog_12_method_13_code 4 (some .int) "FlashFilesModel" D (tyM ca) A) : ∀ (n : Nat), ∀ (y1 y2 y3 : Int32) (H : Heap) (locs : List Loc) (ls : Array Slot), va_P D cls (wM ad ca g) H → va_D A (wM ad ca g) → va_S A s.heap H locs → lv_has ls 4 [(0, .ref (ad 0)), (1, .int y1), (2, .int y2), (3, .int y3)] → Mod_blocksOf_b54 FU n y1 y2 y3 g = some q → W p l e (rmN 2) s m args below meth c H locs 0 0 (MQ below (fxQi D (tyM ca) A (wM ad ca g) q) args s 0 0 A) (F0 m 54 ls []) := by
  have hx := X.1
  have hb := X.2.1
  intro n
  induction n with
  | zero =>
    intro y1 y2 y3 H locs ls hP hD hS hl h
    cases h
  | succ n ih =>
    intro y1 y2 y3 H locs ls hP hD hS hl h
    have h := h
    rw [Mod_blocksOf_b54.eq_2] at h
    refine lv_iload_n hx hb d_Mod_blocksOf_54 rfl (lv_at hl 3 rfl) ?_
    refine lv_sipush (v := 391) hx hb d_Mod_blocksOf_55 (by decide) ?_
    refine lv_icmp_ge (tgt := 89) hx hb d_Mod_blocksOf_58 (by decide) (fun hc => ?_) (fun hc => ?_)
    · have h := if_t hc h
      refine lv_iload_n hx hb d_Mod_blocksOf_89 rfl (lv_at hl 2 rfl) ?_
      cases h
      exact fx_iret X hP hD hS d_Mod_blocksOf_90
    · have h := if_f hc h
      refine lv_iload_n hx hb d_Mod_blocksOf_61 rfl (lv_at hl 2 rfl) ?_
      refine lv_aload_n hx hb d_Mod_blocksOf_62 rfl (lv_at hl 0 rfl) ?_
      refine gM_mod_piece X hP d_Mod_blocksOf_63 ?_
      refine lv_iconst (v := 0) hx hb d_Mod_blocksOf_66 (by decide) ?_
      refine lv_iload_n hx hb d_Mod_blocksOf_67 rfl (lv_at hl 1 rfl) ?_
      refine lv_iload_n hx hb d_Mod_blocksOf_68 rfl (lv_at hl 3 rfl) ?_
      obtain ⟨v1, e1, h⟩ := bd_some h
      refine fx_i X (fx_runS X (m_Mod_at e1 _) (As := [.int (0 : Int32), .int y1, .int y3]) hP hD ks_Mod_82 ⟨Nat.le_of_ble_eq_true rfl, Nat.le_of_ble_eq_true rfl⟩ rfl hl.1 rfl (Nat.le_of_ble_eq_true rfl) d_Mod_blocksOf_69) hD hS (fun H locs hP hD hS => ?_)
      obtain ⟨v2, e1, h⟩ := bd_some h
      refine rM_8 X hP e1 d_Mod_blocksOf_72 ?_
      refine lv_if_lt (tgt := 80) hx hb d_Mod_blocksOf_73 (by decide) (fun hc => ?_) (fun hc => ?_)
      · have h := if_t hc h
        refine lv_iconst (v := 0) hx hb d_Mod_blocksOf_80 (by decide) ?_
        exact v_Mod_blocksOf_81 X ih hP hD hS (lv_sub hl [0, 1, 3] rfl) h
      · have h := if_f hc h
        refine lv_iconst (v := 1) hx hb d_Mod_blocksOf_76 (by decide) ?_
        refine lv_goto (tgt := 81) hx hb d_Mod_blocksOf_77 (by decide) ?_
        exact v_Mod_blocksOf_81 X ih hP hD hS (lv_sub hl [0, 1, 3] rfl) h
set_option maxHeartbeats 4000000 in
set_option maxRecDepth 100000 in
theorem m_Mod_blocksOf {l : Launch} {D : va_G} {ad : Nat → Nat} {ca : Nat → ClassId} {FU : Nat} {x1 : Int32} {g : St} {q : Int32} (h : Mod_blocksOf FU x1 g = some q) : CI l ⟨"FlashFilesModel", "blocksOf", "(I)I"⟩ prog_12_method_13_code 4 2 (some .int) D (tyM ca) (wM ad ca g) [.ref (ad 0), .int x1] q (wM ad ca g) := by
  intro sz
  refine Met.fx (Qc := fun A => fxQi D (tyM ca) A (wM ad ca g) q) (by decide) (Nat.le_of_ble_eq_true rfl) ?_
  intro p e s m below meth c A ls X hP hD hl
  have hl : lv_has ls 4 [(0, .ref (ad 0)), (1, .int x1)] := hl
  have hS : va_S A s.heap s.heap [] := va_S.rf
  have hx := X.1
  have hb := X.2.1
  unfold Mod_blocksOf at h
  refine lv_aload_n hx hb d_Mod_blocksOf_0 rfl (lv_at hl 0 rfl) ?_
  refine gM_mod_kind X hP d_Mod_blocksOf_1 ?_
  refine lv_iload_n hx hb d_Mod_blocksOf_4 rfl (lv_at hl 1 rfl) ?_
  obtain ⟨v3, e1, h⟩ := bd_some h
  refine rM_2 X hP e1 d_Mod_blocksOf_5 ?_
  refine lv_if_ne (tgt := 11) hx hb d_Mod_blocksOf_6 (by decide) (fun hc => ?_) (fun hc => ?_)
  · have h := if_f hc h
    refine lv_aload_n hx hb d_Mod_blocksOf_11 rfl (lv_at hl 0 rfl) ?_
    refine gM_mod_kind X hP d_Mod_blocksOf_12 ?_
    refine lv_iload_n hx hb d_Mod_blocksOf_15 rfl (lv_at hl 1 rfl) ?_
    obtain ⟨v4, e1, h⟩ := bd_some h
    refine rM_2 X hP e1 d_Mod_blocksOf_16 ?_
    refine lv_iconst (v := 2) hx hb d_Mod_blocksOf_17 (by decide) ?_
    refine lv_icmp_ne (tgt := 29) hx hb d_Mod_blocksOf_18 (by decide) (fun hc => ?_) (fun hc => ?_)
    · have h := if_f hc h
      refine lv_aload_n hx hb d_Mod_blocksOf_29 rfl (lv_at hl 0 rfl) ?_
      refine gM_mod_small X hP d_Mod_blocksOf_30 ?_
      refine lv_iload_n hx hb d_Mod_blocksOf_33 rfl (lv_at hl 1 rfl) ?_
      obtain ⟨v5, e1, h⟩ := bd_some h
      refine rM_5 X hP e1 d_Mod_blocksOf_34 ?_
      refine lv_if_eq (tgt := 40) hx hb d_Mod_blocksOf_35 (by decide) (fun hc => ?_) (fun hc => ?_)
      · have h := if_t hc h
        refine lv_iconst (v := 1) hx hb d_Mod_blocksOf_40 (by decide) ?_
        refine lv_aload_n hx hb d_Mod_blocksOf_41 rfl (lv_at hl 0 rfl) ?_
        refine gM_mod_size X hP d_Mod_blocksOf_42 ?_
        refine lv_iload_n hx hb d_Mod_blocksOf_45 rfl (lv_at hl 1 rfl) ?_
        obtain ⟨v6, e1, h⟩ := bd_some h
        refine rM_3 X hP e1 d_Mod_blocksOf_46 ?_
        obtain ⟨v7, e1, h⟩ := bd_some h
        refine fx_i X (fx_runS X (m_Mod_nodesFor e1 _) (As := [.int v6]) hP hD ks_Mod_101 ⟨Nat.le_of_ble_eq_true rfl, Nat.le_of_ble_eq_true rfl⟩ rfl hl.1 rfl (Nat.le_of_ble_eq_true rfl) d_Mod_blocksOf_47) hD hS (fun H locs hP hD hS => ?_)
        refine lv_iadd hx hb d_Mod_blocksOf_50 ?_
        refine lv_istore_n hx hb d_Mod_blocksOf_51 rfl hl (by decide) rfl (fun ls hl => ?_)
        have hl : lv_has ls 4 [(2, .int ((1 : Int32) + v7)), (0, .ref (ad 0)), (1, .int x1)] := hl
        refine lv_iconst (v := 0) hx hb d_Mod_blocksOf_52 (by decide) ?_
        refine lv_istore_n hx hb d_Mod_blocksOf_53 rfl hl (by decide) rfl (fun ls hl => ?_)
        have hl : lv_has ls 4 [(3, .int (0 : Int32)), (2, .int ((1 : Int32) + v7)), (0, .ref (ad 0)), (1, .int x1)] := hl
        exact v_Mod_blocksOf_54 X  _ _ _ _ _ _ _ hP hD hS (lv_sub hl [2, 3, 1, 0] rfl) h
      · have h := if_f hc h
        refine lv_iconst (v := 1) hx hb d_Mod_blocksOf_38 (by decide) ?_
        cases h
        exact fx_iret X hP hD hS d_Mod_blocksOf_39
    · have h := if_t hc h
      refine lv_iconst (v := 1) hx hb d_Mod_blocksOf_21 (by decide) ?_
      refine lv_aload_n hx hb d_Mod_blocksOf_22 rfl (lv_at hl 0 rfl) ?_
      refine lv_iload_n hx hb d_Mod_blocksOf_23 rfl (lv_at hl 1 rfl) ?_
      obtain ⟨v8, e1, h⟩ := bd_some h
      refine fx_i X (fx_runV (As := [.int x1]) X (m_Mod_namesOf e1 _) hP hD kv_Mod_97 ⟨Nat.le_of_ble_eq_true rfl, Nat.le_of_ble_eq_true rfl⟩ 0 rfl rfl rfl hl.1 rfl (Nat.le_of_ble_eq_true rfl) d_Mod_blocksOf_24) hD hS (fun H locs hP hD hS => ?_)
      refine lv_iadd hx hb d_Mod_blocksOf_27 ?_
      cases h
      exact fx_iret X hP hD hS d_Mod_blocksOf_28
  · have h := if_t hc h
    refine lv_iconst (v := 0) hx hb d_Mod_blocksOf_9 (by decide) ?_
    cases h
    exact fx_iret X hP hD hS d_Mod_blocksOf_10
theorem d_Mod_inUse_0 : decode prog_12_method_14_code 0 = .ok (.iconst 0, 1) := by decide +kernel
theorem d_Mod_inUse_1 : decode prog_12_method_14_code 1 = .ok (.istore_n 1, 1) := by decide +kernel
theorem d_Mod_inUse_2 : decode prog_12_method_14_code 2 = .ok (.iconst 1, 1) := by decide +kernel
theorem d_Mod_inUse_3 : decode prog_12_method_14_code 3 = .ok (.istore_n 2, 1) := by decide +kernel
theorem d_Mod_inUse_4 : decode prog_12_method_14_code 4 = .ok (.iload_n 2, 1) := by decide +kernel
theorem d_Mod_inUse_5 : decode prog_12_method_14_code 5 = .ok (.sipush 250, 3) := by decide +kernel
theorem d_Mod_inUse_8 : decode prog_12_method_14_code 8 = .ok (.if_icmp .gt 17, 3) := by decide +kernel
theorem d_Mod_inUse_11 : decode prog_12_method_14_code 11 = .ok (.iload_n 1, 1) := by decide +kernel
theorem d_Mod_inUse_12 : decode prog_12_method_14_code 12 = .ok (.aload_n 0, 1) := by decide +kernel
theorem d_Mod_inUse_13 : decode prog_12_method_14_code 13 = .ok (.iload_n 2, 1) := by decide +kernel
theorem d_Mod_inUse_14 : decode prog_12_method_14_code 14 = .ok (.invokevirtual 104, 3) := by decide +kernel
theorem d_Mod_inUse_17 : decode prog_12_method_14_code 17 = .ok (.iadd, 1) := by decide +kernel
theorem d_Mod_inUse_18 : decode prog_12_method_14_code 18 = .ok (.istore_n 1, 1) := by decide +kernel
theorem d_Mod_inUse_19 : decode prog_12_method_14_code 19 = .ok (.iinc 2 1, 3) := by decide +kernel
theorem d_Mod_inUse_22 : decode prog_12_method_14_code 22 = .ok (.goto (-18), 3) := by decide +kernel
theorem d_Mod_inUse_25 : decode prog_12_method_14_code 25 = .ok (.iload_n 1, 1) := by decide +kernel
theorem d_Mod_inUse_26 : decode prog_12_method_14_code 26 = .ok (.ireturn, 1) := by decide +kernel
set_option maxHeartbeats 4000000 in
set_option maxRecDepth 100000 in
theorem v_Mod_inUse_4 {p : Program} {l : Launch} {e : Env} {s : State} {m : MethodId} {args : Array Value} {below : List Frame} {meth : Method} {c : Code} {D : va_G} {ad : Nat → Nat} {ca : Nat → ClassId} {A : Nat → Prop} {FU : Nat} {q : Int32} {g : St} (X : FX p s m meth c prog_12_method_14_code 3 (some .int) "FlashFilesModel" D (tyM ca) A) : ∀ (n : Nat), ∀ (y1 y2 : Int32) (H : Heap) (locs : List Loc) (ls : Array Slot), va_P D cls (wM ad ca g) H → va_D A (wM ad ca g) → va_S A s.heap H locs → lv_has ls 3 [(0, .ref (ad 0)), (1, .int y1), (2, .int y2)] → Mod_inUse_b4 FU n y1 y2 g = some q → W p l e (rmN 3) s m args below meth c H locs 0 0 (MQ below (fxQi D (tyM ca) A (wM ad ca g) q) args s 0 0 A) (F0 m 4 ls []) := by
  have hx := X.1
  have hb := X.2.1
  intro n
  induction n with
  | zero =>
    intro y1 y2 H locs ls hP hD hS hl h
    cases h
  | succ n ih =>
    intro y1 y2 H locs ls hP hD hS hl h
    have h := h
    rw [Mod_inUse_b4.eq_2] at h
    refine lv_iload_n hx hb d_Mod_inUse_4 rfl (lv_at hl 2 rfl) ?_
    refine lv_sipush (v := 250) hx hb d_Mod_inUse_5 (by decide) ?_
    refine lv_icmp_gt (tgt := 25) hx hb d_Mod_inUse_8 (by decide) (fun hc => ?_) (fun hc => ?_)
    · have h := if_t hc h
      refine lv_iload_n hx hb d_Mod_inUse_25 rfl (lv_at hl 1 rfl) ?_
      cases h
      exact fx_iret X hP hD hS d_Mod_inUse_26
    · have h := if_f hc h
      refine lv_iload_n hx hb d_Mod_inUse_11 rfl (lv_at hl 1 rfl) ?_
      refine lv_aload_n hx hb d_Mod_inUse_12 rfl (lv_at hl 0 rfl) ?_
      refine lv_iload_n hx hb d_Mod_inUse_13 rfl (lv_at hl 2 rfl) ?_
      obtain ⟨v1, e1, h⟩ := bd_some h
      refine fx_i X (fx_runV (As := [.int y2]) X (m_Mod_blocksOf e1 _) hP hD kv_Mod_104 ⟨Nat.le_of_ble_eq_true rfl, Nat.le_of_ble_eq_true rfl⟩ 0 rfl rfl rfl hl.1 rfl (Nat.le_of_ble_eq_true rfl) d_Mod_inUse_14) hD hS (fun H locs hP hD hS => ?_)
      refine lv_iadd hx hb d_Mod_inUse_17 ?_
      refine lv_istore_n hx hb d_Mod_inUse_18 rfl hl (by decide) rfl (fun ls hl => ?_)
      have hl : lv_has ls 3 [(1, .int (y1 + v1)), (0, .ref (ad 0)), (2, .int y2)] := hl
      refine lv_iinc (k := 2) (v := (y2 + (1 : Int32))) hx hb d_Mod_inUse_19 hl rfl (oi_1 _) (by decide) rfl (fun ls hl => ?_)
      have hl : lv_has ls 3 [(2, .int (y2 + (1 : Int32))), (1, .int (y1 + v1)), (0, .ref (ad 0))] := hl
      refine lv_goto (tgt := 4) hx hb d_Mod_inUse_22 (by decide) ?_
      exact ih _ _ _ _ _ hP hD hS (lv_sub hl [2, 1, 0] rfl) h
set_option maxHeartbeats 4000000 in
set_option maxRecDepth 100000 in
theorem m_Mod_inUse {l : Launch} {D : va_G} {ad : Nat → Nat} {ca : Nat → ClassId} {FU : Nat} {g : St} {q : Int32} (h : Mod_inUse FU  g = some q) : CI l ⟨"FlashFilesModel", "inUse", "()I"⟩ prog_12_method_14_code 3 3 (some .int) D (tyM ca) (wM ad ca g) [.ref (ad 0)] q (wM ad ca g) := by
  intro sz
  refine Met.fx (Qc := fun A => fxQi D (tyM ca) A (wM ad ca g) q) (by decide) (Nat.le_of_ble_eq_true rfl) ?_
  intro p e s m below meth c A ls X hP hD hl
  have hl : lv_has ls 3 [(0, .ref (ad 0))] := hl
  have hS : va_S A s.heap s.heap [] := va_S.rf
  have hx := X.1
  have hb := X.2.1
  unfold Mod_inUse at h
  refine lv_iconst (v := 0) hx hb d_Mod_inUse_0 (by decide) ?_
  refine lv_istore_n hx hb d_Mod_inUse_1 rfl hl (by decide) rfl (fun ls hl => ?_)
  have hl : lv_has ls 3 [(1, .int (0 : Int32)), (0, .ref (ad 0))] := hl
  refine lv_iconst (v := 1) hx hb d_Mod_inUse_2 (by decide) ?_
  refine lv_istore_n hx hb d_Mod_inUse_3 rfl hl (by decide) rfl (fun ls hl => ?_)
  have hl : lv_has ls 3 [(2, .int (1 : Int32)), (1, .int (0 : Int32)), (0, .ref (ad 0))] := hl
  exact v_Mod_inUse_4 X  _ _ _ _ _ _ hP hD hS (lv_sub hl [2, 1, 0] rfl) h
theorem d_Mod_isCut_0 : decode prog_12_method_15_code 0 = .ok (.aload_n 0, 1) := by decide +kernel
theorem d_Mod_isCut_1 : decode prog_12_method_15_code 1 = .ok (.getfield 9, 3) := by decide +kernel
theorem d_Mod_isCut_4 : decode prog_12_method_15_code 4 = .ok (.ifCond .lt 7, 3) := by decide +kernel
theorem d_Mod_isCut_7 : decode prog_12_method_15_code 7 = .ok (.iconst 1, 1) := by decide +kernel
theorem d_Mod_isCut_8 : decode prog_12_method_15_code 8 = .ok (.goto 4, 3) := by decide +kernel
theorem d_Mod_isCut_11 : decode prog_12_method_15_code 11 = .ok (.iconst 0, 1) := by decide +kernel
theorem d_Mod_isCut_12 : decode prog_12_method_15_code 12 = .ok (.istore_n 1, 1) := by decide +kernel
theorem d_Mod_isCut_13 : decode prog_12_method_15_code 13 = .ok (.aload_n 0, 1) := by decide +kernel
theorem d_Mod_isCut_14 : decode prog_12_method_15_code 14 = .ok (.aload_n 0, 1) := by decide +kernel
theorem d_Mod_isCut_15 : decode prog_12_method_15_code 15 = .ok (.getfield 107, 3) := by decide +kernel
theorem d_Mod_isCut_18 : decode prog_12_method_15_code 18 = .ok (.ifCond .eq 11, 3) := by decide +kernel
theorem d_Mod_isCut_21 : decode prog_12_method_15_code 21 = .ok (.iload_n 1, 1) := by decide +kernel
theorem d_Mod_isCut_22 : decode prog_12_method_15_code 22 = .ok (.ifCond .ne 7, 3) := by decide +kernel
theorem d_Mod_isCut_25 : decode prog_12_method_15_code 25 = .ok (.iconst 1, 1) := by decide +kernel
theorem d_Mod_isCut_26 : decode prog_12_method_15_code 26 = .ok (.goto 4, 3) := by decide +kernel
theorem d_Mod_isCut_29 : decode prog_12_method_15_code 29 = .ok (.iconst 0, 1) := by decide +kernel
theorem d_Mod_isCut_30 : decode prog_12_method_15_code 30 = .ok (.putfield 107, 3) := by decide +kernel
theorem d_Mod_isCut_33 : decode prog_12_method_15_code 33 = .ok (.aload_n 0, 1) := by decide +kernel
theorem d_Mod_isCut_34 : decode prog_12_method_15_code 34 = .ok (.iconst (-1), 1) := by decide +kernel
theorem d_Mod_isCut_35 : decode prog_12_method_15_code 35 = .ok (.putfield 9, 3) := by decide +kernel
theorem d_Mod_isCut_38 : decode prog_12_method_15_code 38 = .ok (.iload_n 1, 1) := by decide +kernel
theorem d_Mod_isCut_39 : decode prog_12_method_15_code 39 = .ok (.ireturn, 1) := by decide +kernel
set_option maxHeartbeats 4000000 in
set_option maxRecDepth 100000 in
theorem v_Mod_isCut_12 {p : Program} {l : Launch} {e : Env} {s : State} {m : MethodId} {args : Array Value} {below : List Frame} {meth : Method} {c : Code} {D : va_G} {ad : Nat → Nat} {ca : Nat → ClassId} {A : Nat → Prop} {FU : Nat} {q : Int32 × St} (X : FX p s m meth c prog_12_method_15_code 2 (some .boolean) "FlashFilesModel" D (tyM ca) A) {z0 : Int32} {g : St} {H : Heap} {locs : List Loc} {ls : Array Slot} (hP : va_P D cls (wM ad ca g) H) (hD : va_D A (wM ad ca g)) (hS : va_S A s.heap H locs) (hl : lv_has ls 2 [(0, .ref (ad 0))]) (h : Mod_isCut_b12 FU z0 g = some q) : W p l e (rmN 1) s m args below meth c H locs 0 0 (MQ below (fxQi D (tyM ca) A (wM ad ca q.2) q.1) args s 0 0 A) (F0 m 12 ls [.int z0]) := by
  have hx := X.1
  have hb := X.2.1
  unfold Mod_isCut_b12 at h
  refine lv_istore_n hx hb d_Mod_isCut_12 rfl hl (by decide) rfl (fun ls hl => ?_)
  have hl : lv_has ls 2 [(1, .int z0), (0, .ref (ad 0))] := hl
  refine lv_aload_n hx hb d_Mod_isCut_13 rfl (lv_at hl 1 rfl) ?_
  refine lv_aload_n hx hb d_Mod_isCut_14 rfl (lv_at hl 1 rfl) ?_
  refine gM_mod_mounted X hP d_Mod_isCut_15 ?_
  refine lv_if_eq (tgt := 29) hx hb d_Mod_isCut_18 (by decide) (fun hc => ?_) (fun hc => ?_)
  · have h := if_t hc h
    refine lv_iconst (v := 0) hx hb d_Mod_isCut_29 (by decide) ?_
    obtain ⟨g1, e1, h⟩ := nx_some h
    refine uM_mod_mounted X hP hD hS (Or.inl rfl) e1 d_Mod_isCut_30 (fun H locs hP hD hS => ?_)
    refine lv_aload_n hx hb d_Mod_isCut_33 rfl (lv_at hl 1 rfl) ?_
    refine lv_iconst (v := -1) hx hb d_Mod_isCut_34 (by decide) ?_
    obtain ⟨g2, e1, h⟩ := nx_some h
    refine uM_mod_cut X hP hD hS e1 d_Mod_isCut_35 (fun H locs hP hD hS => ?_)
    refine lv_iload_n hx hb d_Mod_isCut_38 rfl (lv_at hl 0 rfl) ?_
    obtain ⟨hz, h⟩ | ⟨hz, h⟩ := if_some h
    rotate_left
    · cases h
    cases h
    exact fx_zret X hP hD hS hz d_Mod_isCut_39
  · have h := if_f hc h
    refine lv_iload_n hx hb d_Mod_isCut_21 rfl (lv_at hl 0 rfl) ?_
    refine lv_if_ne (tgt := 29) hx hb d_Mod_isCut_22 (by decide) (fun hc => ?_) (fun hc => ?_)
    · have h := if_f hc h
      refine lv_iconst (v := 0) hx hb d_Mod_isCut_29 (by decide) ?_
      obtain ⟨g3, e1, h⟩ := nx_some h
      refine uM_mod_mounted X hP hD hS (Or.inl rfl) e1 d_Mod_isCut_30 (fun H locs hP hD hS => ?_)
      refine lv_aload_n hx hb d_Mod_isCut_33 rfl (lv_at hl 1 rfl) ?_
      refine lv_iconst (v := -1) hx hb d_Mod_isCut_34 (by decide) ?_
      obtain ⟨g4, e1, h⟩ := nx_some h
      refine uM_mod_cut X hP hD hS e1 d_Mod_isCut_35 (fun H locs hP hD hS => ?_)
      refine lv_iload_n hx hb d_Mod_isCut_38 rfl (lv_at hl 0 rfl) ?_
      obtain ⟨hz, h⟩ | ⟨hz, h⟩ := if_some h
      rotate_left
      · cases h
      cases h
      exact fx_zret X hP hD hS hz d_Mod_isCut_39
    · have h := if_t hc h
      refine lv_iconst (v := 1) hx hb d_Mod_isCut_25 (by decide) ?_
      refine lv_goto (tgt := 30) hx hb d_Mod_isCut_26 (by decide) ?_
      obtain ⟨g5, e1, h⟩ := nx_some h
      refine uM_mod_mounted X hP hD hS (Or.inr rfl) e1 d_Mod_isCut_30 (fun H locs hP hD hS => ?_)
      refine lv_aload_n hx hb d_Mod_isCut_33 rfl (lv_at hl 1 rfl) ?_
      refine lv_iconst (v := -1) hx hb d_Mod_isCut_34 (by decide) ?_
      obtain ⟨g6, e1, h⟩ := nx_some h
      refine uM_mod_cut X hP hD hS e1 d_Mod_isCut_35 (fun H locs hP hD hS => ?_)
      refine lv_iload_n hx hb d_Mod_isCut_38 rfl (lv_at hl 0 rfl) ?_
      obtain ⟨hz, h⟩ | ⟨hz, h⟩ := if_some h
      rotate_left
      · cases h
      cases h
      exact fx_zret X hP hD hS hz d_Mod_isCut_39
set_option maxHeartbeats 4000000 in
set_option maxRecDepth 100000 in
theorem m_Mod_isCut {l : Launch} {D : va_G} {ad : Nat → Nat} {ca : Nat → ClassId} {FU : Nat} {g : St} {q : Int32 × St} (h : Mod_isCut FU  g = some q) : CI l ⟨"FlashFilesModel", "isCut", "()Z"⟩ prog_12_method_15_code 2 1 (some .boolean) D (tyM ca) (wM ad ca g) [.ref (ad 0)] q.1 (wM ad ca q.2) := by
  intro sz
  refine Met.fx (Qc := fun A => fxQi D (tyM ca) A (wM ad ca q.2) q.1) (by decide) (Nat.le_of_ble_eq_true rfl) ?_
  intro p e s m below meth c A ls X hP hD hl
  have hl : lv_has ls 2 [(0, .ref (ad 0))] := hl
  have hS : va_S A s.heap s.heap [] := va_S.rf
  have hx := X.1
  have hb := X.2.1
  unfold Mod_isCut at h
  refine lv_aload_n hx hb d_Mod_isCut_0 rfl (lv_at hl 0 rfl) ?_
  refine gM_mod_cut X hP d_Mod_isCut_1 ?_
  refine lv_if_lt (tgt := 11) hx hb d_Mod_isCut_4 (by decide) (fun hc => ?_) (fun hc => ?_)
  · have h := if_t hc h
    refine lv_iconst (v := 0) hx hb d_Mod_isCut_11 (by decide) ?_
    exact v_Mod_isCut_12 X  hP hD hS (lv_sub hl [0] rfl) h
  · have h := if_f hc h
    refine lv_iconst (v := 1) hx hb d_Mod_isCut_7 (by decide) ?_
    refine lv_goto (tgt := 12) hx hb d_Mod_isCut_8 (by decide) ?_
    exact v_Mod_isCut_12 X  hP hD hS (lv_sub hl [0] rfl) h
theorem d_Mod_checkpoint_0 : decode prog_12_method_16_code 0 = .ok (.aload_n 0, 1) := by decide +kernel
theorem d_Mod_checkpoint_1 : decode prog_12_method_16_code 1 = .ok (.invokevirtual 111, 3) := by decide +kernel
theorem d_Mod_checkpoint_4 : decode prog_12_method_16_code 4 = .ok (.ifCond .eq 5, 3) := by decide +kernel
theorem d_Mod_checkpoint_7 : decode prog_12_method_16_code 7 = .ok (.iconst 0, 1) := by decide +kernel
theorem d_Mod_checkpoint_8 : decode prog_12_method_16_code 8 = .ok (.ireturn, 1) := by decide +kernel
theorem d_Mod_checkpoint_9 : decode prog_12_method_16_code 9 = .ok (.iconst 1, 1) := by decide +kernel
theorem d_Mod_checkpoint_10 : decode prog_12_method_16_code 10 = .ok (.istore_n 1, 1) := by decide +kernel
theorem d_Mod_checkpoint_11 : decode prog_12_method_16_code 11 = .ok (.iload_n 1, 1) := by decide +kernel
theorem d_Mod_checkpoint_12 : decode prog_12_method_16_code 12 = .ok (.sipush 250, 3) := by decide +kernel
theorem d_Mod_checkpoint_15 : decode prog_12_method_16_code 15 = .ok (.if_icmp .gt 110, 3) := by decide +kernel
theorem d_Mod_checkpoint_18 : decode prog_12_method_16_code 18 = .ok (.aload_n 0, 1) := by decide +kernel
theorem d_Mod_checkpoint_19 : decode prog_12_method_16_code 19 = .ok (.getfield 20, 3) := by decide +kernel
theorem d_Mod_checkpoint_22 : decode prog_12_method_16_code 22 = .ok (.iload_n 1, 1) := by decide +kernel
theorem d_Mod_checkpoint_23 : decode prog_12_method_16_code 23 = .ok (.iaload, 1) := by decide +kernel
theorem d_Mod_checkpoint_24 : decode prog_12_method_16_code 24 = .ok (.iconst 1, 1) := by decide +kernel
theorem d_Mod_checkpoint_25 : decode prog_12_method_16_code 25 = .ok (.if_icmp .ne 13, 3) := by decide +kernel
theorem d_Mod_checkpoint_28 : decode prog_12_method_16_code 28 = .ok (.aload_n 0, 1) := by decide +kernel
theorem d_Mod_checkpoint_29 : decode prog_12_method_16_code 29 = .ok (.iload_n 1, 1) := by decide +kernel
theorem d_Mod_checkpoint_30 : decode prog_12_method_16_code 30 = .ok (.iconst 0, 1) := by decide +kernel
theorem d_Mod_checkpoint_31 : decode prog_12_method_16_code 31 = .ok (.iconst 1, 1) := by decide +kernel
theorem d_Mod_checkpoint_32 : decode prog_12_method_16_code 32 = .ok (.invokevirtual 115, 3) := by decide +kernel
theorem d_Mod_checkpoint_35 : decode prog_12_method_16_code 35 = .ok (.goto 23, 3) := by decide +kernel
theorem d_Mod_checkpoint_38 : decode prog_12_method_16_code 38 = .ok (.aload_n 0, 1) := by decide +kernel
theorem d_Mod_checkpoint_39 : decode prog_12_method_16_code 39 = .ok (.getfield 20, 3) := by decide +kernel
theorem d_Mod_checkpoint_42 : decode prog_12_method_16_code 42 = .ok (.sipush 251, 3) := by decide +kernel
theorem d_Mod_checkpoint_45 : decode prog_12_method_16_code 45 = .ok (.iload_n 1, 1) := by decide +kernel
theorem d_Mod_checkpoint_46 : decode prog_12_method_16_code 46 = .ok (.iadd, 1) := by decide +kernel
theorem d_Mod_checkpoint_47 : decode prog_12_method_16_code 47 = .ok (.iaload, 1) := by decide +kernel
theorem d_Mod_checkpoint_48 : decode prog_12_method_16_code 48 = .ok (.iconst 1, 1) := by decide +kernel
theorem d_Mod_checkpoint_49 : decode prog_12_method_16_code 49 = .ok (.if_icmp .ne 9, 3) := by decide +kernel
theorem d_Mod_checkpoint_52 : decode prog_12_method_16_code 52 = .ok (.aload_n 0, 1) := by decide +kernel
theorem d_Mod_checkpoint_53 : decode prog_12_method_16_code 53 = .ok (.iload_n 1, 1) := by decide +kernel
theorem d_Mod_checkpoint_54 : decode prog_12_method_16_code 54 = .ok (.iconst 1, 1) := by decide +kernel
theorem d_Mod_checkpoint_55 : decode prog_12_method_16_code 55 = .ok (.invokevirtual 119, 3) := by decide +kernel
theorem d_Mod_checkpoint_58 : decode prog_12_method_16_code 58 = .ok (.aload_n 0, 1) := by decide +kernel
theorem d_Mod_checkpoint_59 : decode prog_12_method_16_code 59 = .ok (.getfield 20, 3) := by decide +kernel
theorem d_Mod_checkpoint_62 : decode prog_12_method_16_code 62 = .ok (.sipush 251, 3) := by decide +kernel
theorem d_Mod_checkpoint_65 : decode prog_12_method_16_code 65 = .ok (.iload_n 1, 1) := by decide +kernel
theorem d_Mod_checkpoint_66 : decode prog_12_method_16_code 66 = .ok (.iadd, 1) := by decide +kernel
theorem d_Mod_checkpoint_67 : decode prog_12_method_16_code 67 = .ok (.aload_n 0, 1) := by decide +kernel
theorem d_Mod_checkpoint_68 : decode prog_12_method_16_code 68 = .ok (.getfield 20, 3) := by decide +kernel
theorem d_Mod_checkpoint_71 : decode prog_12_method_16_code 71 = .ok (.iload_n 1, 1) := by decide +kernel
theorem d_Mod_checkpoint_72 : decode prog_12_method_16_code 72 = .ok (.iaload, 1) := by decide +kernel
theorem d_Mod_checkpoint_73 : decode prog_12_method_16_code 73 = .ok (.iastore, 1) := by decide +kernel
theorem d_Mod_checkpoint_74 : decode prog_12_method_16_code 74 = .ok (.aload_n 0, 1) := by decide +kernel
theorem d_Mod_checkpoint_75 : decode prog_12_method_16_code 75 = .ok (.getfield 27, 3) := by decide +kernel
theorem d_Mod_checkpoint_78 : decode prog_12_method_16_code 78 = .ok (.sipush 251, 3) := by decide +kernel
theorem d_Mod_checkpoint_81 : decode prog_12_method_16_code 81 = .ok (.iload_n 1, 1) := by decide +kernel
theorem d_Mod_checkpoint_82 : decode prog_12_method_16_code 82 = .ok (.iadd, 1) := by decide +kernel
theorem d_Mod_checkpoint_83 : decode prog_12_method_16_code 83 = .ok (.aload_n 0, 1) := by decide +kernel
theorem d_Mod_checkpoint_84 : decode prog_12_method_16_code 84 = .ok (.getfield 27, 3) := by decide +kernel
theorem d_Mod_checkpoint_87 : decode prog_12_method_16_code 87 = .ok (.iload_n 1, 1) := by decide +kernel
theorem d_Mod_checkpoint_88 : decode prog_12_method_16_code 88 = .ok (.iaload, 1) := by decide +kernel
theorem d_Mod_checkpoint_89 : decode prog_12_method_16_code 89 = .ok (.iastore, 1) := by decide +kernel
theorem d_Mod_checkpoint_90 : decode prog_12_method_16_code 90 = .ok (.aload_n 0, 1) := by decide +kernel
theorem d_Mod_checkpoint_91 : decode prog_12_method_16_code 91 = .ok (.getfield 34, 3) := by decide +kernel
theorem d_Mod_checkpoint_94 : decode prog_12_method_16_code 94 = .ok (.iload_n 1, 1) := by decide +kernel
theorem d_Mod_checkpoint_95 : decode prog_12_method_16_code 95 = .ok (.baload, 1) := by decide +kernel
theorem d_Mod_checkpoint_96 : decode prog_12_method_16_code 96 = .ok (.ifCond .eq 9, 3) := by decide +kernel
theorem d_Mod_checkpoint_99 : decode prog_12_method_16_code 99 = .ok (.aload_n 0, 1) := by decide +kernel
theorem d_Mod_checkpoint_100 : decode prog_12_method_16_code 100 = .ok (.iload_n 1, 1) := by decide +kernel
theorem d_Mod_checkpoint_101 : decode prog_12_method_16_code 101 = .ok (.iconst 2, 1) := by decide +kernel
theorem d_Mod_checkpoint_102 : decode prog_12_method_16_code 102 = .ok (.invokevirtual 119, 3) := by decide +kernel
theorem d_Mod_checkpoint_105 : decode prog_12_method_16_code 105 = .ok (.aload_n 0, 1) := by decide +kernel
theorem d_Mod_checkpoint_106 : decode prog_12_method_16_code 106 = .ok (.getfield 34, 3) := by decide +kernel
theorem d_Mod_checkpoint_109 : decode prog_12_method_16_code 109 = .ok (.iload_n 1, 1) := by decide +kernel
theorem d_Mod_checkpoint_110 : decode prog_12_method_16_code 110 = .ok (.iconst 0, 1) := by decide +kernel
theorem d_Mod_checkpoint_111 : decode prog_12_method_16_code 111 = .ok (.bastore, 1) := by decide +kernel
theorem d_Mod_checkpoint_112 : decode prog_12_method_16_code 112 = .ok (.aload_n 0, 1) := by decide +kernel
theorem d_Mod_checkpoint_113 : decode prog_12_method_16_code 113 = .ok (.getfield 37, 3) := by decide +kernel
theorem d_Mod_checkpoint_116 : decode prog_12_method_16_code 116 = .ok (.iload_n 1, 1) := by decide +kernel
theorem d_Mod_checkpoint_117 : decode prog_12_method_16_code 117 = .ok (.iconst 0, 1) := by decide +kernel
theorem d_Mod_checkpoint_118 : decode prog_12_method_16_code 118 = .ok (.bastore, 1) := by decide +kernel
theorem d_Mod_checkpoint_119 : decode prog_12_method_16_code 119 = .ok (.iinc 1 1, 3) := by decide +kernel
theorem d_Mod_checkpoint_122 : decode prog_12_method_16_code 122 = .ok (.goto (-111), 3) := by decide +kernel
theorem d_Mod_checkpoint_125 : decode prog_12_method_16_code 125 = .ok (.aload_n 0, 1) := by decide +kernel
theorem d_Mod_checkpoint_126 : decode prog_12_method_16_code 126 = .ok (.aload_n 0, 1) := by decide +kernel
theorem d_Mod_checkpoint_127 : decode prog_12_method_16_code 127 = .ok (.getfield 94, 3) := by decide +kernel
theorem d_Mod_checkpoint_130 : decode prog_12_method_16_code 130 = .ok (.putfield 123, 3) := by decide +kernel
theorem d_Mod_checkpoint_133 : decode prog_12_method_16_code 133 = .ok (.iconst 0, 1) := by decide +kernel
theorem d_Mod_checkpoint_134 : decode prog_12_method_16_code 134 = .ok (.istore_n 1, 1) := by decide +kernel
theorem d_Mod_checkpoint_135 : decode prog_12_method_16_code 135 = .ok (.iload_n 1, 1) := by decide +kernel
theorem d_Mod_checkpoint_136 : decode prog_12_method_16_code 136 = .ok (.aload_n 0, 1) := by decide +kernel
theorem d_Mod_checkpoint_137 : decode prog_12_method_16_code 137 = .ok (.getfield 94, 3) := by decide +kernel
theorem d_Mod_checkpoint_140 : decode prog_12_method_16_code 140 = .ok (.if_icmp .ge 45, 3) := by decide +kernel
theorem d_Mod_checkpoint_143 : decode prog_12_method_16_code 143 = .ok (.aload_n 0, 1) := by decide +kernel
theorem d_Mod_checkpoint_144 : decode prog_12_method_16_code 144 = .ok (.getfield 64, 3) := by decide +kernel
theorem d_Mod_checkpoint_147 : decode prog_12_method_16_code 147 = .ok (.iload_n 1, 1) := by decide +kernel
theorem d_Mod_checkpoint_148 : decode prog_12_method_16_code 148 = .ok (.aload_n 0, 1) := by decide +kernel
theorem d_Mod_checkpoint_149 : decode prog_12_method_16_code 149 = .ok (.getfield 51, 3) := by decide +kernel
theorem d_Mod_checkpoint_152 : decode prog_12_method_16_code 152 = .ok (.iload_n 1, 1) := by decide +kernel
theorem d_Mod_checkpoint_153 : decode prog_12_method_16_code 153 = .ok (.iaload, 1) := by decide +kernel
theorem d_Mod_checkpoint_154 : decode prog_12_method_16_code 154 = .ok (.iastore, 1) := by decide +kernel
theorem d_Mod_checkpoint_155 : decode prog_12_method_16_code 155 = .ok (.aload_n 0, 1) := by decide +kernel
theorem d_Mod_checkpoint_156 : decode prog_12_method_16_code 156 = .ok (.getfield 67, 3) := by decide +kernel
theorem d_Mod_checkpoint_159 : decode prog_12_method_16_code 159 = .ok (.iload_n 1, 1) := by decide +kernel
theorem d_Mod_checkpoint_160 : decode prog_12_method_16_code 160 = .ok (.aload_n 0, 1) := by decide +kernel
theorem d_Mod_checkpoint_161 : decode prog_12_method_16_code 161 = .ok (.getfield 54, 3) := by decide +kernel
theorem d_Mod_checkpoint_164 : decode prog_12_method_16_code 164 = .ok (.iload_n 1, 1) := by decide +kernel
theorem d_Mod_checkpoint_165 : decode prog_12_method_16_code 165 = .ok (.iaload, 1) := by decide +kernel
theorem d_Mod_checkpoint_166 : decode prog_12_method_16_code 166 = .ok (.iastore, 1) := by decide +kernel
theorem d_Mod_checkpoint_167 : decode prog_12_method_16_code 167 = .ok (.aload_n 0, 1) := by decide +kernel
theorem d_Mod_checkpoint_168 : decode prog_12_method_16_code 168 = .ok (.getfield 70, 3) := by decide +kernel
theorem d_Mod_checkpoint_171 : decode prog_12_method_16_code 171 = .ok (.iload_n 1, 1) := by decide +kernel
theorem d_Mod_checkpoint_172 : decode prog_12_method_16_code 172 = .ok (.aload_n 0, 1) := by decide +kernel
theorem d_Mod_checkpoint_173 : decode prog_12_method_16_code 173 = .ok (.getfield 57, 3) := by decide +kernel
theorem d_Mod_checkpoint_176 : decode prog_12_method_16_code 176 = .ok (.iload_n 1, 1) := by decide +kernel
theorem d_Mod_checkpoint_177 : decode prog_12_method_16_code 177 = .ok (.iaload, 1) := by decide +kernel
theorem d_Mod_checkpoint_178 : decode prog_12_method_16_code 178 = .ok (.iastore, 1) := by decide +kernel
theorem d_Mod_checkpoint_179 : decode prog_12_method_16_code 179 = .ok (.iinc 1 1, 3) := by decide +kernel
theorem d_Mod_checkpoint_182 : decode prog_12_method_16_code 182 = .ok (.goto (-47), 3) := by decide +kernel
theorem d_Mod_checkpoint_185 : decode prog_12_method_16_code 185 = .ok (.iconst 0, 1) := by decide +kernel
theorem d_Mod_checkpoint_186 : decode prog_12_method_16_code 186 = .ok (.istore_n 1, 1) := by decide +kernel
theorem d_Mod_checkpoint_187 : decode prog_12_method_16_code 187 = .ok (.iload_n 1, 1) := by decide +kernel
theorem d_Mod_checkpoint_188 : decode prog_12_method_16_code 188 = .ok (.bipush 20, 2) := by decide +kernel
theorem d_Mod_checkpoint_190 : decode prog_12_method_16_code 190 = .ok (.aload_n 0, 1) := by decide +kernel
theorem d_Mod_checkpoint_191 : decode prog_12_method_16_code 191 = .ok (.getfield 94, 3) := by decide +kernel
theorem d_Mod_checkpoint_194 : decode prog_12_method_16_code 194 = .ok (.imul, 1) := by decide +kernel
theorem d_Mod_checkpoint_195 : decode prog_12_method_16_code 195 = .ok (.if_icmp .ge 21, 3) := by decide +kernel
theorem d_Mod_checkpoint_198 : decode prog_12_method_16_code 198 = .ok (.aload_n 0, 1) := by decide +kernel
theorem d_Mod_checkpoint_199 : decode prog_12_method_16_code 199 = .ok (.getfield 73, 3) := by decide +kernel
theorem d_Mod_checkpoint_202 : decode prog_12_method_16_code 202 = .ok (.iload_n 1, 1) := by decide +kernel
theorem d_Mod_checkpoint_203 : decode prog_12_method_16_code 203 = .ok (.aload_n 0, 1) := by decide +kernel
theorem d_Mod_checkpoint_204 : decode prog_12_method_16_code 204 = .ok (.getfield 61, 3) := by decide +kernel
theorem d_Mod_checkpoint_207 : decode prog_12_method_16_code 207 = .ok (.iload_n 1, 1) := by decide +kernel
theorem d_Mod_checkpoint_208 : decode prog_12_method_16_code 208 = .ok (.baload, 1) := by decide +kernel
theorem d_Mod_checkpoint_209 : decode prog_12_method_16_code 209 = .ok (.bastore, 1) := by decide +kernel
theorem d_Mod_checkpoint_210 : decode prog_12_method_16_code 210 = .ok (.iinc 1 1, 3) := by decide +kernel
theorem d_Mod_checkpoint_213 : decode prog_12_method_16_code 213 = .ok (.goto (-26), 3) := by decide +kernel
theorem d_Mod_checkpoint_216 : decode prog_12_method_16_code 216 = .ok (.aload_n 0, 1) := by decide +kernel
theorem d_Mod_checkpoint_217 : decode prog_12_method_16_code 217 = .ok (.aload_n 0, 1) := by decide +kernel
theorem d_Mod_checkpoint_218 : decode prog_12_method_16_code 218 = .ok (.invokevirtual 126, 3) := by decide +kernel
theorem d_Mod_checkpoint_221 : decode prog_12_method_16_code 221 = .ok (.putfield 129, 3) := by decide +kernel
theorem d_Mod_checkpoint_224 : decode prog_12_method_16_code 224 = .ok (.aload_n 0, 1) := by decide +kernel
theorem d_Mod_checkpoint_225 : decode prog_12_method_16_code 225 = .ok (.iconst 0, 1) := by decide +kernel
theorem d_Mod_checkpoint_226 : decode prog_12_method_16_code 226 = .ok (.putfield 132, 3) := by decide +kernel
theorem d_Mod_checkpoint_229 : decode prog_12_method_16_code 229 = .ok (.aload_n 0, 1) := by decide +kernel
theorem d_Mod_checkpoint_230 : decode prog_12_method_16_code 230 = .ok (.dup, 1) := by decide +kernel
theorem d_Mod_checkpoint_231 : decode prog_12_method_16_code 231 = .ok (.getfield 135, 3) := by decide +kernel
theorem d_Mod_checkpoint_234 : decode prog_12_method_16_code 234 = .ok (.iconst 1, 1) := by decide +kernel
theorem d_Mod_checkpoint_235 : decode prog_12_method_16_code 235 = .ok (.iadd, 1) := by decide +kernel
theorem d_Mod_checkpoint_236 : decode prog_12_method_16_code 236 = .ok (.putfield 135, 3) := by decide +kernel
theorem d_Mod_checkpoint_239 : decode prog_12_method_16_code 239 = .ok (.iconst 1, 1) := by decide +kernel
theorem d_Mod_checkpoint_240 : decode prog_12_method_16_code 240 = .ok (.ireturn, 1) := by decide +kernel
set_option maxHeartbeats 4000000 in
set_option maxRecDepth 100000 in
theorem v_Mod_checkpoint_187 {p : Program} {l : Launch} {e : Env} {s : State} {m : MethodId} {args : Array Value} {below : List Frame} {meth : Method} {c : Code} {D : va_G} {ad : Nat → Nat} {ca : Nat → ClassId} {A : Nat → Prop} {FU : Nat} {q : Int32 × St} (X : FX p s m meth c prog_12_method_16_code 2 (some .boolean) "FlashFilesModel" D (tyM ca) A) : ∀ (n : Nat), ∀ (y1 : Int32) (g : St) (H : Heap) (locs : List Loc) (ls : Array Slot), va_P D cls (wM ad ca g) H → va_D A (wM ad ca g) → va_S A s.heap H locs → lv_has ls 2 [(0, .ref (ad 0)), (1, .int y1)] → Mod_checkpoint_b187 FU n y1 g = some q → W p l e (rmN 4) s m args below meth c H locs 0 0 (MQ below (fxQi D (tyM ca) A (wM ad ca q.2) q.1) args s 0 0 A) (F0 m 187 ls []) := by
  have hx := X.1
  have hb := X.2.1
  intro n
  induction n with
  | zero =>
    intro y1 g H locs ls hP hD hS hl h
    cases h
  | succ n ih =>
    intro y1 g H locs ls hP hD hS hl h
    have h := h
    rw [Mod_checkpoint_b187.eq_2] at h
    refine lv_iload_n hx hb d_Mod_checkpoint_187 rfl (lv_at hl 1 rfl) ?_
    refine lv_bipush (v := 20) hx hb d_Mod_checkpoint_188 (by decide) ?_
    refine lv_aload_n hx hb d_Mod_checkpoint_190 rfl (lv_at hl 0 rfl) ?_
    refine gM_mod_entries X hP d_Mod_checkpoint_191 ?_
    refine lv_imul hx hb d_Mod_checkpoint_194 ?_
    refine lv_icmp_ge (tgt := 216) hx hb d_Mod_checkpoint_195 (by decide) (fun hc => ?_) (fun hc => ?_)
    · have h := if_t hc h
      refine lv_aload_n hx hb d_Mod_checkpoint_216 rfl (lv_at hl 0 rfl) ?_
      refine lv_aload_n hx hb d_Mod_checkpoint_217 rfl (lv_at hl 0 rfl) ?_
      obtain ⟨v1, e1, h⟩ := bd_some h
      refine fx_i X (fx_runV (As := []) X (m_Mod_inUse e1 _) hP hD kv_Mod_126 ⟨Nat.le_of_ble_eq_true rfl, Nat.le_of_ble_eq_true rfl⟩ 0 rfl rfl rfl hl.1 rfl (Nat.le_of_ble_eq_true rfl) d_Mod_checkpoint_218) hD hS (fun H locs hP hD hS => ?_)
      obtain ⟨g2, e1, h⟩ := nx_some h
      refine uM_mod_used X hP hD hS e1 d_Mod_checkpoint_221 (fun H locs hP hD hS => ?_)
      refine lv_aload_n hx hb d_Mod_checkpoint_224 rfl (lv_at hl 0 rfl) ?_
      refine lv_iconst (v := 0) hx hb d_Mod_checkpoint_225 (by decide) ?_
      obtain ⟨g3, e1, h⟩ := nx_some h
      refine uM_mod_fresh X hP hD hS e1 d_Mod_checkpoint_226 (fun H locs hP hD hS => ?_)
      refine lv_aload_n hx hb d_Mod_checkpoint_229 rfl (lv_at hl 0 rfl) ?_
      refine lv_dup hx hb d_Mod_checkpoint_230 rfl ?_
      refine gM_mod_checkpoints X hP d_Mod_checkpoint_231 ?_
      refine lv_iconst (v := 1) hx hb d_Mod_checkpoint_234 (by decide) ?_
      refine lv_iadd hx hb d_Mod_checkpoint_235 ?_
      obtain ⟨g4, e1, h⟩ := nx_some h
      refine uM_mod_checkpoints X hP hD hS e1 d_Mod_checkpoint_236 (fun H locs hP hD hS => ?_)
      refine lv_iconst (v := 1) hx hb d_Mod_checkpoint_239 (by decide) ?_
      cases h
      exact fx_zret X hP hD hS (Or.inr rfl) d_Mod_checkpoint_240
    · have h := if_f hc h
      refine lv_aload_n hx hb d_Mod_checkpoint_198 rfl (lv_at hl 0 rfl) ?_
      refine gM_mod_oldName X hP d_Mod_checkpoint_199 ?_
      refine lv_iload_n hx hb d_Mod_checkpoint_202 rfl (lv_at hl 1 rfl) ?_
      refine lv_aload_n hx hb d_Mod_checkpoint_203 rfl (lv_at hl 0 rfl) ?_
      refine gM_mod_entryName X hP d_Mod_checkpoint_204 ?_
      refine lv_iload_n hx hb d_Mod_checkpoint_207 rfl (lv_at hl 1 rfl) ?_
      obtain ⟨v5, e1, h⟩ := bd_some h
      refine rM_14 X hP e1 d_Mod_checkpoint_208 ?_
      obtain ⟨g6, e1, h⟩ := bd_some h
      refine sM_18 X hP hD hS e1 d_Mod_checkpoint_209 (fun H locs hP hD hS => ?_)
      refine lv_iinc (k := 1) (v := (y1 + (1 : Int32))) hx hb d_Mod_checkpoint_210 hl rfl (oi_1 _) (by decide) rfl (fun ls hl => ?_)
      have hl : lv_has ls 2 [(1, .int (y1 + (1 : Int32))), (0, .ref (ad 0))] := hl
      refine lv_goto (tgt := 187) hx hb d_Mod_checkpoint_213 (by decide) ?_
      exact ih _ _ _ _ _ hP hD hS (lv_sub hl [1, 0] rfl) h
set_option maxHeartbeats 4000000 in
set_option maxRecDepth 100000 in
theorem v_Mod_checkpoint_135 {p : Program} {l : Launch} {e : Env} {s : State} {m : MethodId} {args : Array Value} {below : List Frame} {meth : Method} {c : Code} {D : va_G} {ad : Nat → Nat} {ca : Nat → ClassId} {A : Nat → Prop} {FU : Nat} {q : Int32 × St} (X : FX p s m meth c prog_12_method_16_code 2 (some .boolean) "FlashFilesModel" D (tyM ca) A) : ∀ (n : Nat), ∀ (y1 : Int32) (g : St) (H : Heap) (locs : List Loc) (ls : Array Slot), va_P D cls (wM ad ca g) H → va_D A (wM ad ca g) → va_S A s.heap H locs → lv_has ls 2 [(0, .ref (ad 0)), (1, .int y1)] → Mod_checkpoint_b135 FU n y1 g = some q → W p l e (rmN 4) s m args below meth c H locs 0 0 (MQ below (fxQi D (tyM ca) A (wM ad ca q.2) q.1) args s 0 0 A) (F0 m 135 ls []) := by
  have hx := X.1
  have hb := X.2.1
  intro n
  induction n with
  | zero =>
    intro y1 g H locs ls hP hD hS hl h
    cases h
  | succ n ih =>
    intro y1 g H locs ls hP hD hS hl h
    have h := h
    rw [Mod_checkpoint_b135.eq_2] at h
    refine lv_iload_n hx hb d_Mod_checkpoint_135 rfl (lv_at hl 1 rfl) ?_
    refine lv_aload_n hx hb d_Mod_checkpoint_136 rfl (lv_at hl 0 rfl) ?_
    refine gM_mod_entries X hP d_Mod_checkpoint_137 ?_
    refine lv_icmp_ge (tgt := 185) hx hb d_Mod_checkpoint_140 (by decide) (fun hc => ?_) (fun hc => ?_)
    · have h := if_t hc h
      refine lv_iconst (v := 0) hx hb d_Mod_checkpoint_185 (by decide) ?_
      refine lv_istore_n hx hb d_Mod_checkpoint_186 rfl hl (by decide) rfl (fun ls hl => ?_)
      have hl : lv_has ls 2 [(1, .int (0 : Int32)), (0, .ref (ad 0))] := hl
      exact v_Mod_checkpoint_187 X  _ _ _ _ _ _ hP hD hS (lv_sub hl [1, 0] rfl) h
    · have h := if_f hc h
      refine lv_aload_n hx hb d_Mod_checkpoint_143 rfl (lv_at hl 0 rfl) ?_
      refine gM_mod_oldDirectory X hP d_Mod_checkpoint_144 ?_
      refine lv_iload_n hx hb d_Mod_checkpoint_147 rfl (lv_at hl 1 rfl) ?_
      refine lv_aload_n hx hb d_Mod_checkpoint_148 rfl (lv_at hl 0 rfl) ?_
      refine gM_mod_entryDirectory X hP d_Mod_checkpoint_149 ?_
      refine lv_iload_n hx hb d_Mod_checkpoint_152 rfl (lv_at hl 1 rfl) ?_
      obtain ⟨v7, e1, h⟩ := bd_some h
      refine rM_11 X hP e1 d_Mod_checkpoint_153 ?_
      obtain ⟨g8, e1, h⟩ := bd_some h
      refine sM_15 X hP hD hS e1 d_Mod_checkpoint_154 (fun H locs hP hD hS => ?_)
      refine lv_aload_n hx hb d_Mod_checkpoint_155 rfl (lv_at hl 0 rfl) ?_
      refine gM_mod_oldId X hP d_Mod_checkpoint_156 ?_
      refine lv_iload_n hx hb d_Mod_checkpoint_159 rfl (lv_at hl 1 rfl) ?_
      refine lv_aload_n hx hb d_Mod_checkpoint_160 rfl (lv_at hl 0 rfl) ?_
      refine gM_mod_entryId X hP d_Mod_checkpoint_161 ?_
      refine lv_iload_n hx hb d_Mod_checkpoint_164 rfl (lv_at hl 1 rfl) ?_
      obtain ⟨v9, e1, h⟩ := bd_some h
      refine rM_12 X hP e1 d_Mod_checkpoint_165 ?_
      obtain ⟨g10, e1, h⟩ := bd_some h
      refine sM_16 X hP hD hS e1 d_Mod_checkpoint_166 (fun H locs hP hD hS => ?_)
      refine lv_aload_n hx hb d_Mod_checkpoint_167 rfl (lv_at hl 0 rfl) ?_
      refine gM_mod_oldLength X hP d_Mod_checkpoint_168 ?_
      refine lv_iload_n hx hb d_Mod_checkpoint_171 rfl (lv_at hl 1 rfl) ?_
      refine lv_aload_n hx hb d_Mod_checkpoint_172 rfl (lv_at hl 0 rfl) ?_
      refine gM_mod_entryLength X hP d_Mod_checkpoint_173 ?_
      refine lv_iload_n hx hb d_Mod_checkpoint_176 rfl (lv_at hl 1 rfl) ?_
      obtain ⟨v11, e1, h⟩ := bd_some h
      refine rM_13 X hP e1 d_Mod_checkpoint_177 ?_
      obtain ⟨g12, e1, h⟩ := bd_some h
      refine sM_17 X hP hD hS e1 d_Mod_checkpoint_178 (fun H locs hP hD hS => ?_)
      refine lv_iinc (k := 1) (v := (y1 + (1 : Int32))) hx hb d_Mod_checkpoint_179 hl rfl (oi_1 _) (by decide) rfl (fun ls hl => ?_)
      have hl : lv_has ls 2 [(1, .int (y1 + (1 : Int32))), (0, .ref (ad 0))] := hl
      refine lv_goto (tgt := 135) hx hb d_Mod_checkpoint_182 (by decide) ?_
      exact ih _ _ _ _ _ hP hD hS (lv_sub hl [1, 0] rfl) h
set_option maxHeartbeats 4000000 in
set_option maxRecDepth 100000 in
theorem v_Mod_checkpoint_105 {p : Program} {l : Launch} {e : Env} {s : State} {m : MethodId} {args : Array Value} {below : List Frame} {meth : Method} {c : Code} {D : va_G} {ad : Nat → Nat} {ca : Nat → ClassId} {A : Nat → Prop} {FU : Nat} {q : Int32 × St} (X : FX p s m meth c prog_12_method_16_code 2 (some .boolean) "FlashFilesModel" D (tyM ca) A) {k11 : Int32 → St → Option (Int32 × St)} (hk11 : ∀ (y1 : Int32) (g : St) (H : Heap) (locs : List Loc) (ls : Array Slot), va_P D cls (wM ad ca g) H → va_D A (wM ad ca g) → va_S A s.heap H locs → lv_has ls 2 [(0, .ref (ad 0)), (1, .int y1)] → k11 y1 g = some q → W p l e (rmN 4) s m args below meth c H locs 0 0 (MQ below (fxQi D (tyM ca) A (wM ad ca q.2) q.1) args s 0 0 A) (F0 m 11 ls [])) {y1 : Int32} {g : St} {H : Heap} {locs : List Loc} {ls : Array Slot} (hP : va_P D cls (wM ad ca g) H) (hD : va_D A (wM ad ca g)) (hS : va_S A s.heap H locs) (hl : lv_has ls 2 [(0, .ref (ad 0)), (1, .int y1)]) (h : Mod_checkpoint_b105 FU k11 y1 g = some q) : W p l e (rmN 4) s m args below meth c H locs 0 0 (MQ below (fxQi D (tyM ca) A (wM ad ca q.2) q.1) args s 0 0 A) (F0 m 105 ls []) := by
  have hx := X.1
  have hb := X.2.1
  unfold Mod_checkpoint_b105 at h
  refine lv_aload_n hx hb d_Mod_checkpoint_105 rfl (lv_at hl 0 rfl) ?_
  refine gM_mod_synced X hP d_Mod_checkpoint_106 ?_
  refine lv_iload_n hx hb d_Mod_checkpoint_109 rfl (lv_at hl 1 rfl) ?_
  refine lv_iconst (v := 0) hx hb d_Mod_checkpoint_110 (by decide) ?_
  obtain ⟨g13, e1, h⟩ := bd_some h
  refine sM_6 X hP hD hS e1 d_Mod_checkpoint_111 (fun H locs hP hD hS => ?_)
  refine lv_aload_n hx hb d_Mod_checkpoint_112 rfl (lv_at hl 0 rfl) ?_
  refine gM_mod_renamed X hP d_Mod_checkpoint_113 ?_
  refine lv_iload_n hx hb d_Mod_checkpoint_116 rfl (lv_at hl 1 rfl) ?_
  refine lv_iconst (v := 0) hx hb d_Mod_checkpoint_117 (by decide) ?_
  obtain ⟨g14, e1, h⟩ := bd_some h
  refine sM_7 X hP hD hS e1 d_Mod_checkpoint_118 (fun H locs hP hD hS => ?_)
  refine lv_iinc (k := 1) (v := (y1 + (1 : Int32))) hx hb d_Mod_checkpoint_119 hl rfl (oi_1 _) (by decide) rfl (fun ls hl => ?_)
  have hl : lv_has ls 2 [(1, .int (y1 + (1 : Int32))), (0, .ref (ad 0))] := hl
  refine lv_goto (tgt := 11) hx hb d_Mod_checkpoint_122 (by decide) ?_
  exact hk11 _ _ _ _ _ hP hD hS (lv_sub hl [1, 0] rfl) h
set_option maxHeartbeats 4000000 in
set_option maxRecDepth 100000 in
theorem v_Mod_checkpoint_58 {p : Program} {l : Launch} {e : Env} {s : State} {m : MethodId} {args : Array Value} {below : List Frame} {meth : Method} {c : Code} {D : va_G} {ad : Nat → Nat} {ca : Nat → ClassId} {A : Nat → Prop} {FU : Nat} {q : Int32 × St} (X : FX p s m meth c prog_12_method_16_code 2 (some .boolean) "FlashFilesModel" D (tyM ca) A) {k11 : Int32 → St → Option (Int32 × St)} (hk11 : ∀ (y1 : Int32) (g : St) (H : Heap) (locs : List Loc) (ls : Array Slot), va_P D cls (wM ad ca g) H → va_D A (wM ad ca g) → va_S A s.heap H locs → lv_has ls 2 [(0, .ref (ad 0)), (1, .int y1)] → k11 y1 g = some q → W p l e (rmN 4) s m args below meth c H locs 0 0 (MQ below (fxQi D (tyM ca) A (wM ad ca q.2) q.1) args s 0 0 A) (F0 m 11 ls [])) {y1 : Int32} {g : St} {H : Heap} {locs : List Loc} {ls : Array Slot} (hP : va_P D cls (wM ad ca g) H) (hD : va_D A (wM ad ca g)) (hS : va_S A s.heap H locs) (hl : lv_has ls 2 [(0, .ref (ad 0)), (1, .int y1)]) (h : Mod_checkpoint_b58 FU k11 y1 g = some q) : W p l e (rmN 4) s m args below meth c H locs 0 0 (MQ below (fxQi D (tyM ca) A (wM ad ca q.2) q.1) args s 0 0 A) (F0 m 58 ls []) := by
  have hx := X.1
  have hb := X.2.1
  unfold Mod_checkpoint_b58 at h
  refine lv_aload_n hx hb d_Mod_checkpoint_58 rfl (lv_at hl 0 rfl) ?_
  refine gM_mod_kind X hP d_Mod_checkpoint_59 ?_
  refine lv_sipush (v := 251) hx hb d_Mod_checkpoint_62 (by decide) ?_
  refine lv_iload_n hx hb d_Mod_checkpoint_65 rfl (lv_at hl 1 rfl) ?_
  refine lv_iadd hx hb d_Mod_checkpoint_66 ?_
  refine lv_aload_n hx hb d_Mod_checkpoint_67 rfl (lv_at hl 0 rfl) ?_
  refine gM_mod_kind X hP d_Mod_checkpoint_68 ?_
  refine lv_iload_n hx hb d_Mod_checkpoint_71 rfl (lv_at hl 1 rfl) ?_
  obtain ⟨v15, e1, h⟩ := bd_some h
  refine rM_2 X hP e1 d_Mod_checkpoint_72 ?_
  obtain ⟨g16, e1, h⟩ := bd_some h
  refine sM_2 X hP hD hS e1 d_Mod_checkpoint_73 (fun H locs hP hD hS => ?_)
  refine lv_aload_n hx hb d_Mod_checkpoint_74 rfl (lv_at hl 0 rfl) ?_
  refine gM_mod_links X hP d_Mod_checkpoint_75 ?_
  refine lv_sipush (v := 251) hx hb d_Mod_checkpoint_78 (by decide) ?_
  refine lv_iload_n hx hb d_Mod_checkpoint_81 rfl (lv_at hl 1 rfl) ?_
  refine lv_iadd hx hb d_Mod_checkpoint_82 ?_
  refine lv_aload_n hx hb d_Mod_checkpoint_83 rfl (lv_at hl 0 rfl) ?_
  refine gM_mod_links X hP d_Mod_checkpoint_84 ?_
  refine lv_iload_n hx hb d_Mod_checkpoint_87 rfl (lv_at hl 1 rfl) ?_
  obtain ⟨v17, e1, h⟩ := bd_some h
  refine rM_4 X hP e1 d_Mod_checkpoint_88 ?_
  obtain ⟨g18, e1, h⟩ := bd_some h
  refine sM_4 X hP hD hS e1 d_Mod_checkpoint_89 (fun H locs hP hD hS => ?_)
  refine lv_aload_n hx hb d_Mod_checkpoint_90 rfl (lv_at hl 0 rfl) ?_
  refine gM_mod_synced X hP d_Mod_checkpoint_91 ?_
  refine lv_iload_n hx hb d_Mod_checkpoint_94 rfl (lv_at hl 1 rfl) ?_
  obtain ⟨v19, e1, h⟩ := bd_some h
  refine rM_6 X hP e1 d_Mod_checkpoint_95 ?_
  refine lv_if_eq (tgt := 105) hx hb d_Mod_checkpoint_96 (by decide) (fun hc => ?_) (fun hc => ?_)
  · have h := if_t hc h
    exact v_Mod_checkpoint_105 X hk11 hP hD hS (lv_sub hl [0, 1] rfl) h
  · have h := if_f hc h
    refine lv_aload_n hx hb d_Mod_checkpoint_99 rfl (lv_at hl 0 rfl) ?_
    refine lv_iload_n hx hb d_Mod_checkpoint_100 rfl (lv_at hl 1 rfl) ?_
    refine lv_iconst (v := 2) hx hb d_Mod_checkpoint_101 (by decide) ?_
    obtain ⟨p20, e1, h⟩ := bd_some h
    refine fx_v X (fx_runV (As := [.int y1, .int (2 : Int32)]) X (m_Mod_drop e1 _) hP hD kv_Mod_119 ⟨Nat.le_of_ble_eq_true rfl, Nat.le_of_ble_eq_true rfl⟩ 0 rfl rfl rfl hl.1 rfl (Nat.le_of_ble_eq_true rfl) d_Mod_checkpoint_102) hD hS (fun H locs hP hD hS => ?_)
    exact v_Mod_checkpoint_105 X hk11 hP hD hS (lv_sub hl [0, 1] rfl) h
set_option maxHeartbeats 4000000 in
set_option maxRecDepth 100000 in
theorem v_Mod_checkpoint_11 {p : Program} {l : Launch} {e : Env} {s : State} {m : MethodId} {args : Array Value} {below : List Frame} {meth : Method} {c : Code} {D : va_G} {ad : Nat → Nat} {ca : Nat → ClassId} {A : Nat → Prop} {FU : Nat} {q : Int32 × St} (X : FX p s m meth c prog_12_method_16_code 2 (some .boolean) "FlashFilesModel" D (tyM ca) A) : ∀ (n : Nat), ∀ (y1 : Int32) (g : St) (H : Heap) (locs : List Loc) (ls : Array Slot), va_P D cls (wM ad ca g) H → va_D A (wM ad ca g) → va_S A s.heap H locs → lv_has ls 2 [(0, .ref (ad 0)), (1, .int y1)] → Mod_checkpoint_b11 FU n y1 g = some q → W p l e (rmN 4) s m args below meth c H locs 0 0 (MQ below (fxQi D (tyM ca) A (wM ad ca q.2) q.1) args s 0 0 A) (F0 m 11 ls []) := by
  have hx := X.1
  have hb := X.2.1
  intro n
  induction n with
  | zero =>
    intro y1 g H locs ls hP hD hS hl h
    cases h
  | succ n ih =>
    intro y1 g H locs ls hP hD hS hl h
    have h := h
    rw [Mod_checkpoint_b11.eq_2] at h
    refine lv_iload_n hx hb d_Mod_checkpoint_11 rfl (lv_at hl 1 rfl) ?_
    refine lv_sipush (v := 250) hx hb d_Mod_checkpoint_12 (by decide) ?_
    refine lv_icmp_gt (tgt := 125) hx hb d_Mod_checkpoint_15 (by decide) (fun hc => ?_) (fun hc => ?_)
    · have h := if_t hc h
      refine lv_aload_n hx hb d_Mod_checkpoint_125 rfl (lv_at hl 0 rfl) ?_
      refine lv_aload_n hx hb d_Mod_checkpoint_126 rfl (lv_at hl 0 rfl) ?_
      refine gM_mod_entries X hP d_Mod_checkpoint_127 ?_
      obtain ⟨g21, e1, h⟩ := nx_some h
      refine uM_mod_oldEntries X hP hD hS e1 d_Mod_checkpoint_130 (fun H locs hP hD hS => ?_)
      refine lv_iconst (v := 0) hx hb d_Mod_checkpoint_133 (by decide) ?_
      refine lv_istore_n hx hb d_Mod_checkpoint_134 rfl hl (by decide) rfl (fun ls hl => ?_)
      have hl : lv_has ls 2 [(1, .int (0 : Int32)), (0, .ref (ad 0))] := hl
      exact v_Mod_checkpoint_135 X  _ _ _ _ _ _ hP hD hS (lv_sub hl [1, 0] rfl) h
    · have h := if_f hc h
      refine lv_aload_n hx hb d_Mod_checkpoint_18 rfl (lv_at hl 0 rfl) ?_
      refine gM_mod_kind X hP d_Mod_checkpoint_19 ?_
      refine lv_iload_n hx hb d_Mod_checkpoint_22 rfl (lv_at hl 1 rfl) ?_
      obtain ⟨v22, e1, h⟩ := bd_some h
      refine rM_2 X hP e1 d_Mod_checkpoint_23 ?_
      refine lv_iconst (v := 1) hx hb d_Mod_checkpoint_24 (by decide) ?_
      refine lv_icmp_ne (tgt := 38) hx hb d_Mod_checkpoint_25 (by decide) (fun hc => ?_) (fun hc => ?_)
      · have h := if_f hc h
        refine lv_aload_n hx hb d_Mod_checkpoint_38 rfl (lv_at hl 0 rfl) ?_
        refine gM_mod_kind X hP d_Mod_checkpoint_39 ?_
        refine lv_sipush (v := 251) hx hb d_Mod_checkpoint_42 (by decide) ?_
        refine lv_iload_n hx hb d_Mod_checkpoint_45 rfl (lv_at hl 1 rfl) ?_
        refine lv_iadd hx hb d_Mod_checkpoint_46 ?_
        obtain ⟨v23, e1, h⟩ := bd_some h
        refine rM_2 X hP e1 d_Mod_checkpoint_47 ?_
        refine lv_iconst (v := 1) hx hb d_Mod_checkpoint_48 (by decide) ?_
        refine lv_icmp_ne (tgt := 58) hx hb d_Mod_checkpoint_49 (by decide) (fun hc => ?_) (fun hc => ?_)
        · have h := if_f hc h
          exact v_Mod_checkpoint_58 X ih hP hD hS (lv_sub hl [0, 1] rfl) h
        · have h := if_t hc h
          refine lv_aload_n hx hb d_Mod_checkpoint_52 rfl (lv_at hl 0 rfl) ?_
          refine lv_iload_n hx hb d_Mod_checkpoint_53 rfl (lv_at hl 1 rfl) ?_
          refine lv_iconst (v := 1) hx hb d_Mod_checkpoint_54 (by decide) ?_
          obtain ⟨p24, e1, h⟩ := bd_some h
          refine fx_v X (fx_runV (As := [.int y1, .int (1 : Int32)]) X (m_Mod_drop e1 _) hP hD kv_Mod_119 ⟨Nat.le_of_ble_eq_true rfl, Nat.le_of_ble_eq_true rfl⟩ 0 rfl rfl rfl hl.1 rfl (Nat.le_of_ble_eq_true rfl) d_Mod_checkpoint_55) hD hS (fun H locs hP hD hS => ?_)
          exact v_Mod_checkpoint_58 X ih hP hD hS (lv_sub hl [0, 1] rfl) h
      · have h := if_t hc h
        refine lv_aload_n hx hb d_Mod_checkpoint_28 rfl (lv_at hl 0 rfl) ?_
        refine lv_iload_n hx hb d_Mod_checkpoint_29 rfl (lv_at hl 1 rfl) ?_
        refine lv_iconst (v := 0) hx hb d_Mod_checkpoint_30 (by decide) ?_
        refine lv_iconst (v := 1) hx hb d_Mod_checkpoint_31 (by decide) ?_
        obtain ⟨p25, e1, h⟩ := bd_some h
        refine fx_v X (fx_runV (As := [.int y1, .int (0 : Int32), .int (1 : Int32)]) X (m_Mod_copyFile e1 _) hP hD kv_Mod_115 ⟨Nat.le_of_ble_eq_true rfl, Nat.le_of_ble_eq_true rfl⟩ 0 rfl rfl rfl hl.1 rfl (Nat.le_of_ble_eq_true rfl) d_Mod_checkpoint_32) hD hS (fun H locs hP hD hS => ?_)
        refine lv_goto (tgt := 58) hx hb d_Mod_checkpoint_35 (by decide) ?_
        exact v_Mod_checkpoint_58 X ih hP hD hS (lv_sub hl [0, 1] rfl) h
set_option maxHeartbeats 4000000 in
set_option maxRecDepth 100000 in
theorem m_Mod_checkpoint {l : Launch} {D : va_G} {ad : Nat → Nat} {ca : Nat → ClassId} {FU : Nat} {g : St} {q : Int32 × St} (h : Mod_checkpoint FU  g = some q) : CI l ⟨"FlashFilesModel", "checkpoint", "()Z"⟩ prog_12_method_16_code 2 4 (some .boolean) D (tyM ca) (wM ad ca g) [.ref (ad 0)] q.1 (wM ad ca q.2) := by
  intro sz
  refine Met.fx (Qc := fun A => fxQi D (tyM ca) A (wM ad ca q.2) q.1) (by decide) (Nat.le_of_ble_eq_true rfl) ?_
  intro p e s m below meth c A ls X hP hD hl
  have hl : lv_has ls 2 [(0, .ref (ad 0))] := hl
  have hS : va_S A s.heap s.heap [] := va_S.rf
  have hx := X.1
  have hb := X.2.1
  unfold Mod_checkpoint at h
  refine lv_aload_n hx hb d_Mod_checkpoint_0 rfl (lv_at hl 0 rfl) ?_
  obtain ⟨p26, e1, h⟩ := bd_some h
  refine fx_i X (fx_runV (As := []) X (m_Mod_isCut e1 _) hP hD kv_Mod_111 ⟨Nat.le_of_ble_eq_true rfl, Nat.le_of_ble_eq_true rfl⟩ 0 rfl rfl rfl hl.1 rfl (Nat.le_of_ble_eq_true rfl) d_Mod_checkpoint_1) hD hS (fun H locs hP hD hS => ?_)
  refine lv_if_eq (tgt := 9) hx hb d_Mod_checkpoint_4 (by decide) (fun hc => ?_) (fun hc => ?_)
  · have h := if_t hc h
    refine lv_iconst (v := 1) hx hb d_Mod_checkpoint_9 (by decide) ?_
    refine lv_istore_n hx hb d_Mod_checkpoint_10 rfl hl (by decide) rfl (fun ls hl => ?_)
    have hl : lv_has ls 2 [(1, .int (1 : Int32)), (0, .ref (ad 0))] := hl
    exact v_Mod_checkpoint_11 X  _ _ _ _ _ _ hP hD hS (lv_sub hl [1, 0] rfl) h
  · have h := if_f hc h
    refine lv_iconst (v := 0) hx hb d_Mod_checkpoint_7 (by decide) ?_
    cases h
    exact fx_zret X hP hD hS (Or.inl rfl) d_Mod_checkpoint_8
theorem d_Mod_stops_0 : decode prog_12_method_17_code 0 = .ok (.aload_n 0, 1) := by decide +kernel
theorem d_Mod_stops_1 : decode prog_12_method_17_code 1 = .ok (.iconst 0, 1) := by decide +kernel
theorem d_Mod_stops_2 : decode prog_12_method_17_code 2 = .ok (.putfield 76, 3) := by decide +kernel
theorem d_Mod_stops_5 : decode prog_12_method_17_code 5 = .ok (.aload_n 0, 1) := by decide +kernel
theorem d_Mod_stops_6 : decode prog_12_method_17_code 6 = .ok (.getfield 129, 3) := by decide +kernel
theorem d_Mod_stops_9 : decode prog_12_method_17_code 9 = .ok (.aload_n 0, 1) := by decide +kernel
theorem d_Mod_stops_10 : decode prog_12_method_17_code 10 = .ok (.getfield 132, 3) := by decide +kernel
theorem d_Mod_stops_13 : decode prog_12_method_17_code 13 = .ok (.iadd, 1) := by decide +kernel
theorem d_Mod_stops_14 : decode prog_12_method_17_code 14 = .ok (.iload_n 1, 1) := by decide +kernel
theorem d_Mod_stops_15 : decode prog_12_method_17_code 15 = .ok (.iadd, 1) := by decide +kernel
theorem d_Mod_stops_16 : decode prog_12_method_17_code 16 = .ok (.aload_n 0, 1) := by decide +kernel
theorem d_Mod_stops_17 : decode prog_12_method_17_code 17 = .ok (.getfield 138, 3) := by decide +kernel
theorem d_Mod_stops_20 : decode prog_12_method_17_code 20 = .ok (.if_icmp .le 36, 3) := by decide +kernel
theorem d_Mod_stops_23 : decode prog_12_method_17_code 23 = .ok (.aload_n 0, 1) := by decide +kernel
theorem d_Mod_stops_24 : decode prog_12_method_17_code 24 = .ok (.invokevirtual 141, 3) := by decide +kernel
theorem d_Mod_stops_27 : decode prog_12_method_17_code 27 = .ok (.ifCond .ne 11, 3) := by decide +kernel
theorem d_Mod_stops_30 : decode prog_12_method_17_code 30 = .ok (.aload_n 0, 1) := by decide +kernel
theorem d_Mod_stops_31 : decode prog_12_method_17_code 31 = .ok (.iconst 3, 1) := by decide +kernel
theorem d_Mod_stops_32 : decode prog_12_method_17_code 32 = .ok (.putfield 76, 3) := by decide +kernel
theorem d_Mod_stops_35 : decode prog_12_method_17_code 35 = .ok (.goto 21, 3) := by decide +kernel
theorem d_Mod_stops_38 : decode prog_12_method_17_code 38 = .ok (.aload_n 0, 1) := by decide +kernel
theorem d_Mod_stops_39 : decode prog_12_method_17_code 39 = .ok (.getfield 129, 3) := by decide +kernel
theorem d_Mod_stops_42 : decode prog_12_method_17_code 42 = .ok (.iload_n 1, 1) := by decide +kernel
theorem d_Mod_stops_43 : decode prog_12_method_17_code 43 = .ok (.iadd, 1) := by decide +kernel
theorem d_Mod_stops_44 : decode prog_12_method_17_code 44 = .ok (.aload_n 0, 1) := by decide +kernel
theorem d_Mod_stops_45 : decode prog_12_method_17_code 45 = .ok (.getfield 138, 3) := by decide +kernel
theorem d_Mod_stops_48 : decode prog_12_method_17_code 48 = .ok (.if_icmp .le 8, 3) := by decide +kernel
theorem d_Mod_stops_51 : decode prog_12_method_17_code 51 = .ok (.aload_n 0, 1) := by decide +kernel
theorem d_Mod_stops_52 : decode prog_12_method_17_code 52 = .ok (.iconst 2, 1) := by decide +kernel
theorem d_Mod_stops_53 : decode prog_12_method_17_code 53 = .ok (.putfield 76, 3) := by decide +kernel
theorem d_Mod_stops_56 : decode prog_12_method_17_code 56 = .ok (.aload_n 0, 1) := by decide +kernel
theorem d_Mod_stops_57 : decode prog_12_method_17_code 57 = .ok (.getfield 76, 3) := by decide +kernel
theorem d_Mod_stops_60 : decode prog_12_method_17_code 60 = .ok (.ifCond .ne 13, 3) := by decide +kernel
theorem d_Mod_stops_63 : decode prog_12_method_17_code 63 = .ok (.aload_n 0, 1) := by decide +kernel
theorem d_Mod_stops_64 : decode prog_12_method_17_code 64 = .ok (.dup, 1) := by decide +kernel
theorem d_Mod_stops_65 : decode prog_12_method_17_code 65 = .ok (.getfield 132, 3) := by decide +kernel
theorem d_Mod_stops_68 : decode prog_12_method_17_code 68 = .ok (.iload_n 1, 1) := by decide +kernel
theorem d_Mod_stops_69 : decode prog_12_method_17_code 69 = .ok (.iadd, 1) := by decide +kernel
theorem d_Mod_stops_70 : decode prog_12_method_17_code 70 = .ok (.putfield 132, 3) := by decide +kernel
theorem d_Mod_stops_73 : decode prog_12_method_17_code 73 = .ok (.aload_n 0, 1) := by decide +kernel
theorem d_Mod_stops_74 : decode prog_12_method_17_code 74 = .ok (.getfield 76, 3) := by decide +kernel
theorem d_Mod_stops_77 : decode prog_12_method_17_code 77 = .ok (.ifCond .le 7, 3) := by decide +kernel
theorem d_Mod_stops_80 : decode prog_12_method_17_code 80 = .ok (.iconst 1, 1) := by decide +kernel
theorem d_Mod_stops_81 : decode prog_12_method_17_code 81 = .ok (.goto 4, 3) := by decide +kernel
theorem d_Mod_stops_84 : decode prog_12_method_17_code 84 = .ok (.iconst 0, 1) := by decide +kernel
theorem d_Mod_stops_85 : decode prog_12_method_17_code 85 = .ok (.ireturn, 1) := by decide +kernel
set_option maxHeartbeats 4000000 in
set_option maxRecDepth 100000 in
theorem v_Mod_stops_56 {p : Program} {l : Launch} {e : Env} {s : State} {m : MethodId} {args : Array Value} {below : List Frame} {meth : Method} {c : Code} {D : va_G} {ad : Nat → Nat} {ca : Nat → ClassId} {A : Nat → Prop} {FU : Nat} {q : Int32 × St} (X : FX p s m meth c prog_12_method_17_code 2 (some .boolean) "FlashFilesModel" D (tyM ca) A) {y1 : Int32} {g : St} {H : Heap} {locs : List Loc} {ls : Array Slot} (hP : va_P D cls (wM ad ca g) H) (hD : va_D A (wM ad ca g)) (hS : va_S A s.heap H locs) (hl : lv_has ls 2 [(0, .ref (ad 0)), (1, .int y1)]) (h : Mod_stops_b56 FU y1 g = some q) : W p l e (rmN 5) s m args below meth c H locs 0 0 (MQ below (fxQi D (tyM ca) A (wM ad ca q.2) q.1) args s 0 0 A) (F0 m 56 ls []) := by
  have hx := X.1
  have hb := X.2.1
  unfold Mod_stops_b56 at h
  refine lv_aload_n hx hb d_Mod_stops_56 rfl (lv_at hl 0 rfl) ?_
  refine gM_mod_thrown X hP d_Mod_stops_57 ?_
  refine lv_if_ne (tgt := 73) hx hb d_Mod_stops_60 (by decide) (fun hc => ?_) (fun hc => ?_)
  · have h := if_f hc h
    refine lv_aload_n hx hb d_Mod_stops_73 rfl (lv_at hl 0 rfl) ?_
    refine gM_mod_thrown X hP d_Mod_stops_74 ?_
    refine lv_if_le (tgt := 84) hx hb d_Mod_stops_77 (by decide) (fun hc => ?_) (fun hc => ?_)
    · have h := if_t hc h
      refine lv_iconst (v := 0) hx hb d_Mod_stops_84 (by decide) ?_
      cases h
      exact fx_zret X hP hD hS (Or.inl rfl) d_Mod_stops_85
    · have h := if_f hc h
      refine lv_iconst (v := 1) hx hb d_Mod_stops_80 (by decide) ?_
      refine lv_goto (tgt := 85) hx hb d_Mod_stops_81 (by decide) ?_
      cases h
      exact fx_zret X hP hD hS (Or.inr rfl) d_Mod_stops_85
  · have h := if_t hc h
    refine lv_aload_n hx hb d_Mod_stops_63 rfl (lv_at hl 0 rfl) ?_
    refine lv_dup hx hb d_Mod_stops_64 rfl ?_
    refine gM_mod_fresh X hP d_Mod_stops_65 ?_
    refine lv_iload_n hx hb d_Mod_stops_68 rfl (lv_at hl 1 rfl) ?_
    refine lv_iadd hx hb d_Mod_stops_69 ?_
    obtain ⟨g1, e1, h⟩ := nx_some h
    refine uM_mod_fresh X hP hD hS e1 d_Mod_stops_70 (fun H locs hP hD hS => ?_)
    refine lv_aload_n hx hb d_Mod_stops_73 rfl (lv_at hl 0 rfl) ?_
    refine gM_mod_thrown X hP d_Mod_stops_74 ?_
    refine lv_if_le (tgt := 84) hx hb d_Mod_stops_77 (by decide) (fun hc => ?_) (fun hc => ?_)
    · have h := if_t hc h
      refine lv_iconst (v := 0) hx hb d_Mod_stops_84 (by decide) ?_
      cases h
      exact fx_zret X hP hD hS (Or.inl rfl) d_Mod_stops_85
    · have h := if_f hc h
      refine lv_iconst (v := 1) hx hb d_Mod_stops_80 (by decide) ?_
      refine lv_goto (tgt := 85) hx hb d_Mod_stops_81 (by decide) ?_
      cases h
      exact fx_zret X hP hD hS (Or.inr rfl) d_Mod_stops_85
set_option maxHeartbeats 4000000 in
set_option maxRecDepth 100000 in
theorem m_Mod_stops {l : Launch} {D : va_G} {ad : Nat → Nat} {ca : Nat → ClassId} {FU : Nat} {x1 : Int32} {g : St} {q : Int32 × St} (h : Mod_stops FU x1 g = some q) : CI l ⟨"FlashFilesModel", "stops", "(I)Z"⟩ prog_12_method_17_code 2 5 (some .boolean) D (tyM ca) (wM ad ca g) [.ref (ad 0), .int x1] q.1 (wM ad ca q.2) := by
  intro sz
  refine Met.fx (Qc := fun A => fxQi D (tyM ca) A (wM ad ca q.2) q.1) (by decide) (Nat.le_of_ble_eq_true rfl) ?_
  intro p e s m below meth c A ls X hP hD hl
  have hl : lv_has ls 2 [(0, .ref (ad 0)), (1, .int x1)] := hl
  have hS : va_S A s.heap s.heap [] := va_S.rf
  have hx := X.1
  have hb := X.2.1
  unfold Mod_stops at h
  refine lv_aload_n hx hb d_Mod_stops_0 rfl (lv_at hl 0 rfl) ?_
  refine lv_iconst (v := 0) hx hb d_Mod_stops_1 (by decide) ?_
  obtain ⟨g2, e1, h⟩ := nx_some h
  refine uM_mod_thrown X hP hD hS e1 d_Mod_stops_2 (fun H locs hP hD hS => ?_)
  refine lv_aload_n hx hb d_Mod_stops_5 rfl (lv_at hl 0 rfl) ?_
  refine gM_mod_used X hP d_Mod_stops_6 ?_
  refine lv_aload_n hx hb d_Mod_stops_9 rfl (lv_at hl 0 rfl) ?_
  refine gM_mod_fresh X hP d_Mod_stops_10 ?_
  refine lv_iadd hx hb d_Mod_stops_13 ?_
  refine lv_iload_n hx hb d_Mod_stops_14 rfl (lv_at hl 1 rfl) ?_
  refine lv_iadd hx hb d_Mod_stops_15 ?_
  refine lv_aload_n hx hb d_Mod_stops_16 rfl (lv_at hl 0 rfl) ?_
  refine gM_mod_most X hP d_Mod_stops_17 ?_
  refine lv_icmp_le (tgt := 56) hx hb d_Mod_stops_20 (by decide) (fun hc => ?_) (fun hc => ?_)
  · have h := if_t hc h
    exact v_Mod_stops_56 X  hP hD hS (lv_sub hl [0, 1] rfl) h
  · have h := if_f hc h
    refine lv_aload_n hx hb d_Mod_stops_23 rfl (lv_at hl 0 rfl) ?_
    obtain ⟨p3, e1, h⟩ := bd_some h
    refine fx_i X (fx_runV (As := []) X (m_Mod_checkpoint e1 _) hP hD kv_Mod_141 ⟨Nat.le_of_ble_eq_true rfl, Nat.le_of_ble_eq_true rfl⟩ 0 rfl rfl rfl hl.1 rfl (Nat.le_of_ble_eq_true rfl) d_Mod_stops_24) hD hS (fun H locs hP hD hS => ?_)
    refine lv_if_ne (tgt := 38) hx hb d_Mod_stops_27 (by decide) (fun hc => ?_) (fun hc => ?_)
    · have h := if_f hc h
      refine lv_aload_n hx hb d_Mod_stops_38 rfl (lv_at hl 0 rfl) ?_
      refine gM_mod_used X hP d_Mod_stops_39 ?_
      refine lv_iload_n hx hb d_Mod_stops_42 rfl (lv_at hl 1 rfl) ?_
      refine lv_iadd hx hb d_Mod_stops_43 ?_
      refine lv_aload_n hx hb d_Mod_stops_44 rfl (lv_at hl 0 rfl) ?_
      refine gM_mod_most X hP d_Mod_stops_45 ?_
      refine lv_icmp_le (tgt := 56) hx hb d_Mod_stops_48 (by decide) (fun hc => ?_) (fun hc => ?_)
      · have h := if_t hc h
        exact v_Mod_stops_56 X  hP hD hS (lv_sub hl [0, 1] rfl) h
      · have h := if_f hc h
        refine lv_aload_n hx hb d_Mod_stops_51 rfl (lv_at hl 0 rfl) ?_
        refine lv_iconst (v := 2) hx hb d_Mod_stops_52 (by decide) ?_
        obtain ⟨g4, e1, h⟩ := nx_some h
        refine uM_mod_thrown X hP hD hS e1 d_Mod_stops_53 (fun H locs hP hD hS => ?_)
        exact v_Mod_stops_56 X  hP hD hS (lv_sub hl [0, 1] rfl) h
    · have h := if_t hc h
      refine lv_aload_n hx hb d_Mod_stops_30 rfl (lv_at hl 0 rfl) ?_
      refine lv_iconst (v := 3) hx hb d_Mod_stops_31 (by decide) ?_
      obtain ⟨g5, e1, h⟩ := nx_some h
      refine uM_mod_thrown X hP hD hS e1 d_Mod_stops_32 (fun H locs hP hD hS => ?_)
      refine lv_goto (tgt := 56) hx hb d_Mod_stops_35 (by decide) ?_
      exact v_Mod_stops_56 X  hP hD hS (lv_sub hl [0, 1] rfl) h
theorem d_Mod_format_0 : decode prog_12_method_18_code 0 = .ok (.aload_n 0, 1) := by decide +kernel
theorem d_Mod_format_1 : decode prog_12_method_18_code 1 = .ok (.iload_n 1, 1) := by decide +kernel
theorem d_Mod_format_2 : decode prog_12_method_18_code 2 = .ok (.bipush 48, 2) := by decide +kernel
theorem d_Mod_format_4 : decode prog_12_method_18_code 4 = .ok (.sipush 128, 3) := by decide +kernel
theorem d_Mod_format_7 : decode prog_12_method_18_code 7 = .ok (.invokestatic 144, 3) := by decide +kernel
theorem d_Mod_format_10 : decode prog_12_method_18_code 10 = .ok (.ifCond .eq 15, 3) := by decide +kernel
theorem d_Mod_format_13 : decode prog_12_method_18_code 13 = .ok (.iload_n 2, 1) := by decide +kernel
theorem d_Mod_format_14 : decode prog_12_method_18_code 14 = .ok (.bipush 24, 2) := by decide +kernel
theorem d_Mod_format_16 : decode prog_12_method_18_code 16 = .ok (.iload_n 1, 1) := by decide +kernel
theorem d_Mod_format_17 : decode prog_12_method_18_code 17 = .ok (.iconst 2, 1) := by decide +kernel
theorem d_Mod_format_18 : decode prog_12_method_18_code 18 = .ok (.idiv, 1) := by decide +kernel
theorem d_Mod_format_19 : decode prog_12_method_18_code 19 = .ok (.invokestatic 144, 3) := by decide +kernel
theorem d_Mod_format_22 : decode prog_12_method_18_code 22 = .ok (.ifCond .ne 7, 3) := by decide +kernel
theorem d_Mod_format_25 : decode prog_12_method_18_code 25 = .ok (.iconst 1, 1) := by decide +kernel
theorem d_Mod_format_26 : decode prog_12_method_18_code 26 = .ok (.goto 4, 3) := by decide +kernel
theorem d_Mod_format_29 : decode prog_12_method_18_code 29 = .ok (.iconst 0, 1) := by decide +kernel
theorem d_Mod_format_30 : decode prog_12_method_18_code 30 = .ok (.iconst 0, 1) := by decide +kernel
theorem d_Mod_format_31 : decode prog_12_method_18_code 31 = .ok (.invokevirtual 148, 3) := by decide +kernel
theorem d_Mod_format_34 : decode prog_12_method_18_code 34 = .ok (.ifCond .eq 4, 3) := by decide +kernel
theorem d_Mod_format_37 : decode prog_12_method_18_code 37 = .ok (.return_, 1) := by decide +kernel
theorem d_Mod_format_38 : decode prog_12_method_18_code 38 = .ok (.iconst 0, 1) := by decide +kernel
theorem d_Mod_format_39 : decode prog_12_method_18_code 39 = .ok (.istore_n 3, 1) := by decide +kernel
theorem d_Mod_format_40 : decode prog_12_method_18_code 40 = .ok (.iload_n 3, 1) := by decide +kernel
theorem d_Mod_format_41 : decode prog_12_method_18_code 41 = .ok (.sipush 6600, 3) := by decide +kernel
theorem d_Mod_format_44 : decode prog_12_method_18_code 44 = .ok (.if_icmp .ge 16, 3) := by decide +kernel
theorem d_Mod_format_47 : decode prog_12_method_18_code 47 = .ok (.aload_n 0, 1) := by decide +kernel
theorem d_Mod_format_48 : decode prog_12_method_18_code 48 = .ok (.getfield 48, 3) := by decide +kernel
theorem d_Mod_format_51 : decode prog_12_method_18_code 51 = .ok (.iload_n 3, 1) := by decide +kernel
theorem d_Mod_format_52 : decode prog_12_method_18_code 52 = .ok (.iconst 0, 1) := by decide +kernel
theorem d_Mod_format_53 : decode prog_12_method_18_code 53 = .ok (.iastore, 1) := by decide +kernel
theorem d_Mod_format_54 : decode prog_12_method_18_code 54 = .ok (.iinc 3 1, 3) := by decide +kernel
theorem d_Mod_format_57 : decode prog_12_method_18_code 57 = .ok (.goto (-17), 3) := by decide +kernel
theorem d_Mod_format_60 : decode prog_12_method_18_code 60 = .ok (.iconst 0, 1) := by decide +kernel
theorem d_Mod_format_61 : decode prog_12_method_18_code 61 = .ok (.istore_n 3, 1) := by decide +kernel
theorem d_Mod_format_62 : decode prog_12_method_18_code 62 = .ok (.iload_n 3, 1) := by decide +kernel
theorem d_Mod_format_63 : decode prog_12_method_18_code 63 = .ok (.ldc 40, 2) := by decide +kernel
theorem d_Mod_format_65 : decode prog_12_method_18_code 65 = .ok (.if_icmp .ge 16, 3) := by decide +kernel
theorem d_Mod_format_68 : decode prog_12_method_18_code 68 = .ok (.aload_n 0, 1) := by decide +kernel
theorem d_Mod_format_69 : decode prog_12_method_18_code 69 = .ok (.getfield 41, 3) := by decide +kernel
theorem d_Mod_format_72 : decode prog_12_method_18_code 72 = .ok (.iload_n 3, 1) := by decide +kernel
theorem d_Mod_format_73 : decode prog_12_method_18_code 73 = .ok (.iconst (-1), 1) := by decide +kernel
theorem d_Mod_format_74 : decode prog_12_method_18_code 74 = .ok (.iastore, 1) := by decide +kernel
theorem d_Mod_format_75 : decode prog_12_method_18_code 75 = .ok (.iinc 3 1, 3) := by decide +kernel
theorem d_Mod_format_78 : decode prog_12_method_18_code 78 = .ok (.goto (-16), 3) := by decide +kernel
theorem d_Mod_format_81 : decode prog_12_method_18_code 81 = .ok (.iconst 0, 1) := by decide +kernel
theorem d_Mod_format_82 : decode prog_12_method_18_code 82 = .ok (.istore_n 3, 1) := by decide +kernel
theorem d_Mod_format_83 : decode prog_12_method_18_code 83 = .ok (.iload_n 3, 1) := by decide +kernel
theorem d_Mod_format_84 : decode prog_12_method_18_code 84 = .ok (.sipush 753, 3) := by decide +kernel
theorem d_Mod_format_87 : decode prog_12_method_18_code 87 = .ok (.if_icmp .ge 37, 3) := by decide +kernel
theorem d_Mod_format_90 : decode prog_12_method_18_code 90 = .ok (.aload_n 0, 1) := by decide +kernel
theorem d_Mod_format_91 : decode prog_12_method_18_code 91 = .ok (.getfield 20, 3) := by decide +kernel
theorem d_Mod_format_94 : decode prog_12_method_18_code 94 = .ok (.iload_n 3, 1) := by decide +kernel
theorem d_Mod_format_95 : decode prog_12_method_18_code 95 = .ok (.iconst 0, 1) := by decide +kernel
theorem d_Mod_format_96 : decode prog_12_method_18_code 96 = .ok (.iastore, 1) := by decide +kernel
theorem d_Mod_format_97 : decode prog_12_method_18_code 97 = .ok (.aload_n 0, 1) := by decide +kernel
theorem d_Mod_format_98 : decode prog_12_method_18_code 98 = .ok (.getfield 24, 3) := by decide +kernel
theorem d_Mod_format_101 : decode prog_12_method_18_code 101 = .ok (.iload_n 3, 1) := by decide +kernel
theorem d_Mod_format_102 : decode prog_12_method_18_code 102 = .ok (.iconst 0, 1) := by decide +kernel
theorem d_Mod_format_103 : decode prog_12_method_18_code 103 = .ok (.iastore, 1) := by decide +kernel
theorem d_Mod_format_104 : decode prog_12_method_18_code 104 = .ok (.aload_n 0, 1) := by decide +kernel
theorem d_Mod_format_105 : decode prog_12_method_18_code 105 = .ok (.getfield 27, 3) := by decide +kernel
theorem d_Mod_format_108 : decode prog_12_method_18_code 108 = .ok (.iload_n 3, 1) := by decide +kernel
theorem d_Mod_format_109 : decode prog_12_method_18_code 109 = .ok (.iconst 0, 1) := by decide +kernel
theorem d_Mod_format_110 : decode prog_12_method_18_code 110 = .ok (.iastore, 1) := by decide +kernel
theorem d_Mod_format_111 : decode prog_12_method_18_code 111 = .ok (.aload_n 0, 1) := by decide +kernel
theorem d_Mod_format_112 : decode prog_12_method_18_code 112 = .ok (.getfield 30, 3) := by decide +kernel
theorem d_Mod_format_115 : decode prog_12_method_18_code 115 = .ok (.iload_n 3, 1) := by decide +kernel
theorem d_Mod_format_116 : decode prog_12_method_18_code 116 = .ok (.iconst 0, 1) := by decide +kernel
theorem d_Mod_format_117 : decode prog_12_method_18_code 117 = .ok (.bastore, 1) := by decide +kernel
theorem d_Mod_format_118 : decode prog_12_method_18_code 118 = .ok (.iinc 3 1, 3) := by decide +kernel
theorem d_Mod_format_121 : decode prog_12_method_18_code 121 = .ok (.goto (-38), 3) := by decide +kernel
theorem d_Mod_format_124 : decode prog_12_method_18_code 124 = .ok (.iconst 0, 1) := by decide +kernel
theorem d_Mod_format_125 : decode prog_12_method_18_code 125 = .ok (.istore_n 3, 1) := by decide +kernel
theorem d_Mod_format_126 : decode prog_12_method_18_code 126 = .ok (.iload_n 3, 1) := by decide +kernel
theorem d_Mod_format_127 : decode prog_12_method_18_code 127 = .ok (.sipush 251, 3) := by decide +kernel
theorem d_Mod_format_130 : decode prog_12_method_18_code 130 = .ok (.if_icmp .ge 16, 3) := by decide +kernel
theorem d_Mod_format_133 : decode prog_12_method_18_code 133 = .ok (.aload_n 0, 1) := by decide +kernel
theorem d_Mod_format_134 : decode prog_12_method_18_code 134 = .ok (.getfield 34, 3) := by decide +kernel
theorem d_Mod_format_137 : decode prog_12_method_18_code 137 = .ok (.iload_n 3, 1) := by decide +kernel
theorem d_Mod_format_138 : decode prog_12_method_18_code 138 = .ok (.iconst 0, 1) := by decide +kernel
theorem d_Mod_format_139 : decode prog_12_method_18_code 139 = .ok (.bastore, 1) := by decide +kernel
theorem d_Mod_format_140 : decode prog_12_method_18_code 140 = .ok (.iinc 3 1, 3) := by decide +kernel
theorem d_Mod_format_143 : decode prog_12_method_18_code 143 = .ok (.goto (-17), 3) := by decide +kernel
theorem d_Mod_format_146 : decode prog_12_method_18_code 146 = .ok (.aload_n 0, 1) := by decide +kernel
theorem d_Mod_format_147 : decode prog_12_method_18_code 147 = .ok (.iconst 0, 1) := by decide +kernel
theorem d_Mod_format_148 : decode prog_12_method_18_code 148 = .ok (.putfield 94, 3) := by decide +kernel
theorem d_Mod_format_151 : decode prog_12_method_18_code 151 = .ok (.aload_n 0, 1) := by decide +kernel
theorem d_Mod_format_152 : decode prog_12_method_18_code 152 = .ok (.getfield 20, 3) := by decide +kernel
theorem d_Mod_format_155 : decode prog_12_method_18_code 155 = .ok (.iconst 1, 1) := by decide +kernel
theorem d_Mod_format_156 : decode prog_12_method_18_code 156 = .ok (.iconst 2, 1) := by decide +kernel
theorem d_Mod_format_157 : decode prog_12_method_18_code 157 = .ok (.iastore, 1) := by decide +kernel
theorem d_Mod_format_158 : decode prog_12_method_18_code 158 = .ok (.aload_n 0, 1) := by decide +kernel
theorem d_Mod_format_159 : decode prog_12_method_18_code 159 = .ok (.bipush 16, 2) := by decide +kernel
theorem d_Mod_format_161 : decode prog_12_method_18_code 161 = .ok (.iload_n 1, 1) := by decide +kernel
theorem d_Mod_format_162 : decode prog_12_method_18_code 162 = .ok (.iload_n 2, 1) := by decide +kernel
theorem d_Mod_format_163 : decode prog_12_method_18_code 163 = .ok (.isub, 1) := by decide +kernel
theorem d_Mod_format_164 : decode prog_12_method_18_code 164 = .ok (.imul, 1) := by decide +kernel
theorem d_Mod_format_165 : decode prog_12_method_18_code 165 = .ok (.putfield 138, 3) := by decide +kernel
theorem d_Mod_format_168 : decode prog_12_method_18_code 168 = .ok (.aload_n 0, 1) := by decide +kernel
theorem d_Mod_format_169 : decode prog_12_method_18_code 169 = .ok (.iconst 1, 1) := by decide +kernel
theorem d_Mod_format_170 : decode prog_12_method_18_code 170 = .ok (.putfield 152, 3) := by decide +kernel
theorem d_Mod_format_173 : decode prog_12_method_18_code 173 = .ok (.aload_n 0, 1) := by decide +kernel
theorem d_Mod_format_174 : decode prog_12_method_18_code 174 = .ok (.iconst 1, 1) := by decide +kernel
theorem d_Mod_format_175 : decode prog_12_method_18_code 175 = .ok (.putfield 107, 3) := by decide +kernel
theorem d_Mod_format_178 : decode prog_12_method_18_code 178 = .ok (.aload_n 0, 1) := by decide +kernel
theorem d_Mod_format_179 : decode prog_12_method_18_code 179 = .ok (.iconst (-1), 1) := by decide +kernel
theorem d_Mod_format_180 : decode prog_12_method_18_code 180 = .ok (.putfield 9, 3) := by decide +kernel
theorem d_Mod_format_183 : decode prog_12_method_18_code 183 = .ok (.aload_n 0, 1) := by decide +kernel
theorem d_Mod_format_184 : decode prog_12_method_18_code 184 = .ok (.iconst 0, 1) := by decide +kernel
theorem d_Mod_format_185 : decode prog_12_method_18_code 185 = .ok (.putfield 135, 3) := by decide +kernel
theorem d_Mod_format_188 : decode prog_12_method_18_code 188 = .ok (.aload_n 0, 1) := by decide +kernel
theorem d_Mod_format_189 : decode prog_12_method_18_code 189 = .ok (.iconst 0, 1) := by decide +kernel
theorem d_Mod_format_190 : decode prog_12_method_18_code 190 = .ok (.putfield 155, 3) := by decide +kernel
theorem d_Mod_format_193 : decode prog_12_method_18_code 193 = .ok (.aload_n 0, 1) := by decide +kernel
theorem d_Mod_format_194 : decode prog_12_method_18_code 194 = .ok (.invokevirtual 141, 3) := by decide +kernel
theorem d_Mod_format_197 : decode prog_12_method_18_code 197 = .ok (.pop, 1) := by decide +kernel
theorem d_Mod_format_198 : decode prog_12_method_18_code 198 = .ok (.return_, 1) := by decide +kernel
set_option maxHeartbeats 4000000 in
set_option maxRecDepth 100000 in
theorem v_Mod_format_126 {p : Program} {l : Launch} {e : Env} {s : State} {m : MethodId} {args : Array Value} {below : List Frame} {meth : Method} {c : Code} {D : va_G} {ad : Nat → Nat} {ca : Nat → ClassId} {A : Nat → Prop} {FU : Nat} {q : St} (X : FX p s m meth c prog_12_method_18_code 4 none "FlashFilesModel" D (tyM ca) A) : ∀ (n : Nat), ∀ (y1 y2 y3 : Int32) (g : St) (H : Heap) (locs : List Loc) (ls : Array Slot), va_P D cls (wM ad ca g) H → va_D A (wM ad ca g) → va_S A s.heap H locs → lv_has ls 4 [(0, .ref (ad 0)), (1, .int y1), (2, .int y2), (3, .int y3)] → Mod_format_b126 FU n y1 y2 y3 g = some q → W p l e (rmN 5) s m args below meth c H locs 0 0 (MQ below (fxQv D (tyM ca) A (wM ad ca q)) args s 0 0 A) (F0 m 126 ls []) := by
  have hx := X.1
  have hb := X.2.1
  intro n
  induction n with
  | zero =>
    intro y1 y2 y3 g H locs ls hP hD hS hl h
    cases h
  | succ n ih =>
    intro y1 y2 y3 g H locs ls hP hD hS hl h
    have h := h
    rw [Mod_format_b126.eq_2] at h
    refine lv_iload_n hx hb d_Mod_format_126 rfl (lv_at hl 3 rfl) ?_
    refine lv_sipush (v := 251) hx hb d_Mod_format_127 (by decide) ?_
    refine lv_icmp_ge (tgt := 146) hx hb d_Mod_format_130 (by decide) (fun hc => ?_) (fun hc => ?_)
    · have h := if_t hc h
      refine lv_aload_n hx hb d_Mod_format_146 rfl (lv_at hl 0 rfl) ?_
      refine lv_iconst (v := 0) hx hb d_Mod_format_147 (by decide) ?_
      obtain ⟨g1, e1, h⟩ := nx_some h
      refine uM_mod_entries X hP hD hS e1 d_Mod_format_148 (fun H locs hP hD hS => ?_)
      refine lv_aload_n hx hb d_Mod_format_151 rfl (lv_at hl 0 rfl) ?_
      refine gM_mod_kind X hP d_Mod_format_152 ?_
      refine lv_iconst (v := 1) hx hb d_Mod_format_155 (by decide) ?_
      refine lv_iconst (v := 2) hx hb d_Mod_format_156 (by decide) ?_
      obtain ⟨g2, e1, h⟩ := bd_some h
      refine sM_2 X hP hD hS e1 d_Mod_format_157 (fun H locs hP hD hS => ?_)
      refine lv_aload_n hx hb d_Mod_format_158 rfl (lv_at hl 0 rfl) ?_
      refine lv_bipush (v := 16) hx hb d_Mod_format_159 (by decide) ?_
      refine lv_iload_n hx hb d_Mod_format_161 rfl (lv_at hl 1 rfl) ?_
      refine lv_iload_n hx hb d_Mod_format_162 rfl (lv_at hl 2 rfl) ?_
      refine lv_isub hx hb d_Mod_format_163 ?_
      refine lv_imul hx hb d_Mod_format_164 ?_
      obtain ⟨g3, e1, h⟩ := nx_some h
      refine uM_mod_most X hP hD hS e1 d_Mod_format_165 (fun H locs hP hD hS => ?_)
      refine lv_aload_n hx hb d_Mod_format_168 rfl (lv_at hl 0 rfl) ?_
      refine lv_iconst (v := 1) hx hb d_Mod_format_169 (by decide) ?_
      obtain ⟨g4, e1, h⟩ := nx_some h
      refine uM_mod_device X hP hD hS (Or.inr rfl) e1 d_Mod_format_170 (fun H locs hP hD hS => ?_)
      refine lv_aload_n hx hb d_Mod_format_173 rfl (lv_at hl 0 rfl) ?_
      refine lv_iconst (v := 1) hx hb d_Mod_format_174 (by decide) ?_
      obtain ⟨g5, e1, h⟩ := nx_some h
      refine uM_mod_mounted X hP hD hS (Or.inr rfl) e1 d_Mod_format_175 (fun H locs hP hD hS => ?_)
      refine lv_aload_n hx hb d_Mod_format_178 rfl (lv_at hl 0 rfl) ?_
      refine lv_iconst (v := -1) hx hb d_Mod_format_179 (by decide) ?_
      obtain ⟨g6, e1, h⟩ := nx_some h
      refine uM_mod_cut X hP hD hS e1 d_Mod_format_180 (fun H locs hP hD hS => ?_)
      refine lv_aload_n hx hb d_Mod_format_183 rfl (lv_at hl 0 rfl) ?_
      refine lv_iconst (v := 0) hx hb d_Mod_format_184 (by decide) ?_
      obtain ⟨g7, e1, h⟩ := nx_some h
      refine uM_mod_checkpoints X hP hD hS e1 d_Mod_format_185 (fun H locs hP hD hS => ?_)
      refine lv_aload_n hx hb d_Mod_format_188 rfl (lv_at hl 0 rfl) ?_
      refine lv_iconst (v := 0) hx hb d_Mod_format_189 (by decide) ?_
      obtain ⟨g8, e1, h⟩ := nx_some h
      refine uM_mod_forward X hP hD hS e1 d_Mod_format_190 (fun H locs hP hD hS => ?_)
      refine lv_aload_n hx hb d_Mod_format_193 rfl (lv_at hl 0 rfl) ?_
      obtain ⟨p9, e1, h⟩ := bd_some h
      refine fx_i X (fx_runV (As := []) X (m_Mod_checkpoint e1 _) hP hD kv_Mod_141 ⟨Nat.le_of_ble_eq_true rfl, Nat.le_of_ble_eq_true rfl⟩ 0 rfl rfl rfl hl.1 rfl (Nat.le_of_ble_eq_true rfl) d_Mod_format_194) hD hS (fun H locs hP hD hS => ?_)
      refine lv_pop hx hb d_Mod_format_197 rfl ?_
      cases h
      exact fx_vret X hP hD hS d_Mod_format_198
    · have h := if_f hc h
      refine lv_aload_n hx hb d_Mod_format_133 rfl (lv_at hl 0 rfl) ?_
      refine gM_mod_synced X hP d_Mod_format_134 ?_
      refine lv_iload_n hx hb d_Mod_format_137 rfl (lv_at hl 3 rfl) ?_
      refine lv_iconst (v := 0) hx hb d_Mod_format_138 (by decide) ?_
      obtain ⟨g10, e1, h⟩ := bd_some h
      refine sM_6 X hP hD hS e1 d_Mod_format_139 (fun H locs hP hD hS => ?_)
      refine lv_iinc (k := 3) (v := (y3 + (1 : Int32))) hx hb d_Mod_format_140 hl rfl (oi_1 _) (by decide) rfl (fun ls hl => ?_)
      have hl : lv_has ls 4 [(3, .int (y3 + (1 : Int32))), (0, .ref (ad 0)), (1, .int y1), (2, .int y2)] := hl
      refine lv_goto (tgt := 126) hx hb d_Mod_format_143 (by decide) ?_
      exact ih _ _ _ _ _ _ _ hP hD hS (lv_sub hl [1, 2, 3, 0] rfl) h
set_option maxHeartbeats 4000000 in
set_option maxRecDepth 100000 in
theorem v_Mod_format_83 {p : Program} {l : Launch} {e : Env} {s : State} {m : MethodId} {args : Array Value} {below : List Frame} {meth : Method} {c : Code} {D : va_G} {ad : Nat → Nat} {ca : Nat → ClassId} {A : Nat → Prop} {FU : Nat} {q : St} (X : FX p s m meth c prog_12_method_18_code 4 none "FlashFilesModel" D (tyM ca) A) : ∀ (n : Nat), ∀ (y1 y2 y3 : Int32) (g : St) (H : Heap) (locs : List Loc) (ls : Array Slot), va_P D cls (wM ad ca g) H → va_D A (wM ad ca g) → va_S A s.heap H locs → lv_has ls 4 [(0, .ref (ad 0)), (1, .int y1), (2, .int y2), (3, .int y3)] → Mod_format_b83 FU n y1 y2 y3 g = some q → W p l e (rmN 5) s m args below meth c H locs 0 0 (MQ below (fxQv D (tyM ca) A (wM ad ca q)) args s 0 0 A) (F0 m 83 ls []) := by
  have hx := X.1
  have hb := X.2.1
  intro n
  induction n with
  | zero =>
    intro y1 y2 y3 g H locs ls hP hD hS hl h
    cases h
  | succ n ih =>
    intro y1 y2 y3 g H locs ls hP hD hS hl h
    have h := h
    rw [Mod_format_b83.eq_2] at h
    refine lv_iload_n hx hb d_Mod_format_83 rfl (lv_at hl 3 rfl) ?_
    refine lv_sipush (v := 753) hx hb d_Mod_format_84 (by decide) ?_
    refine lv_icmp_ge (tgt := 124) hx hb d_Mod_format_87 (by decide) (fun hc => ?_) (fun hc => ?_)
    · have h := if_t hc h
      refine lv_iconst (v := 0) hx hb d_Mod_format_124 (by decide) ?_
      refine lv_istore_n hx hb d_Mod_format_125 rfl hl (by decide) rfl (fun ls hl => ?_)
      have hl : lv_has ls 4 [(3, .int (0 : Int32)), (0, .ref (ad 0)), (1, .int y1), (2, .int y2)] := hl
      exact v_Mod_format_126 X  _ _ _ _ _ _ _ _ hP hD hS (lv_sub hl [1, 2, 3, 0] rfl) h
    · have h := if_f hc h
      refine lv_aload_n hx hb d_Mod_format_90 rfl (lv_at hl 0 rfl) ?_
      refine gM_mod_kind X hP d_Mod_format_91 ?_
      refine lv_iload_n hx hb d_Mod_format_94 rfl (lv_at hl 3 rfl) ?_
      refine lv_iconst (v := 0) hx hb d_Mod_format_95 (by decide) ?_
      obtain ⟨g11, e1, h⟩ := bd_some h
      refine sM_2 X hP hD hS e1 d_Mod_format_96 (fun H locs hP hD hS => ?_)
      refine lv_aload_n hx hb d_Mod_format_97 rfl (lv_at hl 0 rfl) ?_
      refine gM_mod_size X hP d_Mod_format_98 ?_
      refine lv_iload_n hx hb d_Mod_format_101 rfl (lv_at hl 3 rfl) ?_
      refine lv_iconst (v := 0) hx hb d_Mod_format_102 (by decide) ?_
      obtain ⟨g12, e1, h⟩ := bd_some h
      refine sM_3 X hP hD hS e1 d_Mod_format_103 (fun H locs hP hD hS => ?_)
      refine lv_aload_n hx hb d_Mod_format_104 rfl (lv_at hl 0 rfl) ?_
      refine gM_mod_links X hP d_Mod_format_105 ?_
      refine lv_iload_n hx hb d_Mod_format_108 rfl (lv_at hl 3 rfl) ?_
      refine lv_iconst (v := 0) hx hb d_Mod_format_109 (by decide) ?_
      obtain ⟨g13, e1, h⟩ := bd_some h
      refine sM_4 X hP hD hS e1 d_Mod_format_110 (fun H locs hP hD hS => ?_)
      refine lv_aload_n hx hb d_Mod_format_111 rfl (lv_at hl 0 rfl) ?_
      refine gM_mod_small X hP d_Mod_format_112 ?_
      refine lv_iload_n hx hb d_Mod_format_115 rfl (lv_at hl 3 rfl) ?_
      refine lv_iconst (v := 0) hx hb d_Mod_format_116 (by decide) ?_
      obtain ⟨g14, e1, h⟩ := bd_some h
      refine sM_5 X hP hD hS e1 d_Mod_format_117 (fun H locs hP hD hS => ?_)
      refine lv_iinc (k := 3) (v := (y3 + (1 : Int32))) hx hb d_Mod_format_118 hl rfl (oi_1 _) (by decide) rfl (fun ls hl => ?_)
      have hl : lv_has ls 4 [(3, .int (y3 + (1 : Int32))), (0, .ref (ad 0)), (1, .int y1), (2, .int y2)] := hl
      refine lv_goto (tgt := 83) hx hb d_Mod_format_121 (by decide) ?_
      exact ih _ _ _ _ _ _ _ hP hD hS (lv_sub hl [1, 2, 3, 0] rfl) h
set_option maxHeartbeats 4000000 in
set_option maxRecDepth 100000 in
theorem v_Mod_format_62 {p : Program} {l : Launch} {e : Env} {s : State} {m : MethodId} {args : Array Value} {below : List Frame} {meth : Method} {c : Code} {D : va_G} {ad : Nat → Nat} {ca : Nat → ClassId} {A : Nat → Prop} {FU : Nat} {q : St} (X : FX p s m meth c prog_12_method_18_code 4 none "FlashFilesModel" D (tyM ca) A) : ∀ (n : Nat), ∀ (y1 y2 y3 : Int32) (g : St) (H : Heap) (locs : List Loc) (ls : Array Slot), va_P D cls (wM ad ca g) H → va_D A (wM ad ca g) → va_S A s.heap H locs → lv_has ls 4 [(0, .ref (ad 0)), (1, .int y1), (2, .int y2), (3, .int y3)] → Mod_format_b62 FU n y1 y2 y3 g = some q → W p l e (rmN 5) s m args below meth c H locs 0 0 (MQ below (fxQv D (tyM ca) A (wM ad ca q)) args s 0 0 A) (F0 m 62 ls []) := by
  have hx := X.1
  have hb := X.2.1
  intro n
  induction n with
  | zero =>
    intro y1 y2 y3 g H locs ls hP hD hS hl h
    cases h
  | succ n ih =>
    intro y1 y2 y3 g H locs ls hP hD hS hl h
    have h := h
    rw [Mod_format_b62.eq_2] at h
    refine lv_iload_n hx hb d_Mod_format_62 rfl (lv_at hl 3 rfl) ?_
    refine lv_ldc (v := 294423) hx hb X.2.2.2.2.2.1 (X.2.2.2.2.2.2.1.use q7_140) d_Mod_format_63 ?_
    refine lv_icmp_ge (tgt := 81) hx hb d_Mod_format_65 (by decide) (fun hc => ?_) (fun hc => ?_)
    · have h := if_t hc h
      refine lv_iconst (v := 0) hx hb d_Mod_format_81 (by decide) ?_
      refine lv_istore_n hx hb d_Mod_format_82 rfl hl (by decide) rfl (fun ls hl => ?_)
      have hl : lv_has ls 4 [(3, .int (0 : Int32)), (0, .ref (ad 0)), (1, .int y1), (2, .int y2)] := hl
      exact v_Mod_format_83 X  _ _ _ _ _ _ _ _ hP hD hS (lv_sub hl [1, 2, 3, 0] rfl) h
    · have h := if_f hc h
      refine lv_aload_n hx hb d_Mod_format_68 rfl (lv_at hl 0 rfl) ?_
      refine gM_mod_piece X hP d_Mod_format_69 ?_
      refine lv_iload_n hx hb d_Mod_format_72 rfl (lv_at hl 3 rfl) ?_
      refine lv_iconst (v := -1) hx hb d_Mod_format_73 (by decide) ?_
      obtain ⟨g15, e1, h⟩ := bd_some h
      refine sM_8 X hP hD hS e1 d_Mod_format_74 (fun H locs hP hD hS => ?_)
      refine lv_iinc (k := 3) (v := (y3 + (1 : Int32))) hx hb d_Mod_format_75 hl rfl (oi_1 _) (by decide) rfl (fun ls hl => ?_)
      have hl : lv_has ls 4 [(3, .int (y3 + (1 : Int32))), (0, .ref (ad 0)), (1, .int y1), (2, .int y2)] := hl
      refine lv_goto (tgt := 62) hx hb d_Mod_format_78 (by decide) ?_
      exact ih _ _ _ _ _ _ _ hP hD hS (lv_sub hl [1, 2, 3, 0] rfl) h
set_option maxHeartbeats 4000000 in
set_option maxRecDepth 100000 in
theorem v_Mod_format_40 {p : Program} {l : Launch} {e : Env} {s : State} {m : MethodId} {args : Array Value} {below : List Frame} {meth : Method} {c : Code} {D : va_G} {ad : Nat → Nat} {ca : Nat → ClassId} {A : Nat → Prop} {FU : Nat} {q : St} (X : FX p s m meth c prog_12_method_18_code 4 none "FlashFilesModel" D (tyM ca) A) : ∀ (n : Nat), ∀ (y1 y2 y3 : Int32) (g : St) (H : Heap) (locs : List Loc) (ls : Array Slot), va_P D cls (wM ad ca g) H → va_D A (wM ad ca g) → va_S A s.heap H locs → lv_has ls 4 [(0, .ref (ad 0)), (1, .int y1), (2, .int y2), (3, .int y3)] → Mod_format_b40 FU n y1 y2 y3 g = some q → W p l e (rmN 5) s m args below meth c H locs 0 0 (MQ below (fxQv D (tyM ca) A (wM ad ca q)) args s 0 0 A) (F0 m 40 ls []) := by
  have hx := X.1
  have hb := X.2.1
  intro n
  induction n with
  | zero =>
    intro y1 y2 y3 g H locs ls hP hD hS hl h
    cases h
  | succ n ih =>
    intro y1 y2 y3 g H locs ls hP hD hS hl h
    have h := h
    rw [Mod_format_b40.eq_2] at h
    refine lv_iload_n hx hb d_Mod_format_40 rfl (lv_at hl 3 rfl) ?_
    refine lv_sipush (v := 6600) hx hb d_Mod_format_41 (by decide) ?_
    refine lv_icmp_ge (tgt := 60) hx hb d_Mod_format_44 (by decide) (fun hc => ?_) (fun hc => ?_)
    · have h := if_t hc h
      refine lv_iconst (v := 0) hx hb d_Mod_format_60 (by decide) ?_
      refine lv_istore_n hx hb d_Mod_format_61 rfl hl (by decide) rfl (fun ls hl => ?_)
      have hl : lv_has ls 4 [(3, .int (0 : Int32)), (0, .ref (ad 0)), (1, .int y1), (2, .int y2)] := hl
      exact v_Mod_format_62 X  _ _ _ _ _ _ _ _ hP hD hS (lv_sub hl [1, 2, 3, 0] rfl) h
    · have h := if_f hc h
      refine lv_aload_n hx hb d_Mod_format_47 rfl (lv_at hl 0 rfl) ?_
      refine gM_mod_owners X hP d_Mod_format_48 ?_
      refine lv_iload_n hx hb d_Mod_format_51 rfl (lv_at hl 3 rfl) ?_
      refine lv_iconst (v := 0) hx hb d_Mod_format_52 (by decide) ?_
      obtain ⟨g16, e1, h⟩ := bd_some h
      refine sM_10 X hP hD hS e1 d_Mod_format_53 (fun H locs hP hD hS => ?_)
      refine lv_iinc (k := 3) (v := (y3 + (1 : Int32))) hx hb d_Mod_format_54 hl rfl (oi_1 _) (by decide) rfl (fun ls hl => ?_)
      have hl : lv_has ls 4 [(3, .int (y3 + (1 : Int32))), (0, .ref (ad 0)), (1, .int y1), (2, .int y2)] := hl
      refine lv_goto (tgt := 40) hx hb d_Mod_format_57 (by decide) ?_
      exact ih _ _ _ _ _ _ _ hP hD hS (lv_sub hl [1, 2, 3, 0] rfl) h
set_option maxHeartbeats 4000000 in
set_option maxRecDepth 100000 in
theorem v_Mod_format_30 {p : Program} {l : Launch} {e : Env} {s : State} {m : MethodId} {args : Array Value} {below : List Frame} {meth : Method} {c : Code} {D : va_G} {ad : Nat → Nat} {ca : Nat → ClassId} {A : Nat → Prop} {FU : Nat} {q : St} (X : FX p s m meth c prog_12_method_18_code 4 none "FlashFilesModel" D (tyM ca) A) {y1 : Int32} {y2 : Int32} {z0 : Int32} {g : St} {H : Heap} {locs : List Loc} {ls : Array Slot} (hP : va_P D cls (wM ad ca g) H) (hD : va_D A (wM ad ca g)) (hS : va_S A s.heap H locs) (hl : lv_has ls 4 [(0, .ref (ad 0)), (1, .int y1), (2, .int y2)]) (h : Mod_format_b30 FU y1 y2 z0 g = some q) : W p l e (rmN 5) s m args below meth c H locs 0 0 (MQ below (fxQv D (tyM ca) A (wM ad ca q)) args s 0 0 A) (F0 m 30 ls [.int z0, .ref (ad 0)]) := by
  have hx := X.1
  have hb := X.2.1
  unfold Mod_format_b30 at h
  refine lv_iconst (v := 0) hx hb d_Mod_format_30 (by decide) ?_
  obtain ⟨p17, e1, h⟩ := bd_some h
  refine fx_i X (fx_runV (As := [.int z0, .int (0 : Int32)]) X (m_Mod_throwing e1 _) hP hD kv_Mod_148 ⟨Nat.le_of_ble_eq_true rfl, Nat.le_of_ble_eq_true rfl⟩ 0 rfl rfl rfl hl.1 rfl (Nat.le_of_ble_eq_true rfl) d_Mod_format_31) hD hS (fun H locs hP hD hS => ?_)
  refine lv_if_eq (tgt := 38) hx hb d_Mod_format_34 (by decide) (fun hc => ?_) (fun hc => ?_)
  · have h := if_t hc h
    refine lv_iconst (v := 0) hx hb d_Mod_format_38 (by decide) ?_
    refine lv_istore_n hx hb d_Mod_format_39 rfl hl (by decide) rfl (fun ls hl => ?_)
    have hl : lv_has ls 4 [(3, .int (0 : Int32)), (0, .ref (ad 0)), (1, .int y1), (2, .int y2)] := hl
    exact v_Mod_format_40 X  _ _ _ _ _ _ _ _ hP hD hS (lv_sub hl [1, 2, 3, 0] rfl) h
  · have h := if_f hc h
    cases h
    exact fx_vret X hP hD hS d_Mod_format_37
set_option maxHeartbeats 4000000 in
set_option maxRecDepth 100000 in
theorem v_Mod_format_25 {p : Program} {l : Launch} {e : Env} {s : State} {m : MethodId} {args : Array Value} {below : List Frame} {meth : Method} {c : Code} {D : va_G} {ad : Nat → Nat} {ca : Nat → ClassId} {A : Nat → Prop} {FU : Nat} {q : St} (X : FX p s m meth c prog_12_method_18_code 4 none "FlashFilesModel" D (tyM ca) A) {y1 : Int32} {y2 : Int32} {g : St} {H : Heap} {locs : List Loc} {ls : Array Slot} (hP : va_P D cls (wM ad ca g) H) (hD : va_D A (wM ad ca g)) (hS : va_S A s.heap H locs) (hl : lv_has ls 4 [(0, .ref (ad 0)), (1, .int y1), (2, .int y2)]) (h : Mod_format_b25 FU y1 y2 g = some q) : W p l e (rmN 5) s m args below meth c H locs 0 0 (MQ below (fxQv D (tyM ca) A (wM ad ca q)) args s 0 0 A) (F0 m 25 ls [.ref (ad 0)]) := by
  have hx := X.1
  have hb := X.2.1
  unfold Mod_format_b25 at h
  refine lv_iconst (v := 1) hx hb d_Mod_format_25 (by decide) ?_
  refine lv_goto (tgt := 30) hx hb d_Mod_format_26 (by decide) ?_
  exact v_Mod_format_30 X  hP hD hS (lv_sub hl [0, 1, 2] rfl) h
set_option maxHeartbeats 4000000 in
set_option maxRecDepth 100000 in
theorem m_Mod_format {l : Launch} {D : va_G} {ad : Nat → Nat} {ca : Nat → ClassId} {FU : Nat} {x1 : Int32} {x2 : Int32} {g : St} {q : St} (h : Mod_format FU x1 x2 g = some q) : CV l ⟨"FlashFilesModel", "format", "(II)V"⟩ prog_12_method_18_code 4 5 D (tyM ca) (wM ad ca g) [.ref (ad 0), .int x1, .int x2] (wM ad ca q) := by
  intro sz
  refine Met.fx (Qc := fun A => fxQv D (tyM ca) A (wM ad ca q)) (by decide) (Nat.le_of_ble_eq_true rfl) ?_
  intro p e s m below meth c A ls X hP hD hl
  have hl : lv_has ls 4 [(0, .ref (ad 0)), (1, .int x1), (2, .int x2)] := hl
  have hS : va_S A s.heap s.heap [] := va_S.rf
  have hx := X.1
  have hb := X.2.1
  unfold Mod_format at h
  refine lv_aload_n hx hb d_Mod_format_0 rfl (lv_at hl 0 rfl) ?_
  refine lv_iload_n hx hb d_Mod_format_1 rfl (lv_at hl 1 rfl) ?_
  refine lv_bipush (v := 48) hx hb d_Mod_format_2 (by decide) ?_
  refine lv_sipush (v := 128) hx hb d_Mod_format_4 (by decide) ?_
  obtain ⟨v18, e1, h⟩ := bd_some h
  refine fx_i X (fx_runS X (m_Mod_in e1 _) (As := [.int x1, .int (48 : Int32), .int (128 : Int32)]) hP hD ks_Mod_144 ⟨Nat.le_of_ble_eq_true rfl, Nat.le_of_ble_eq_true rfl⟩ rfl hl.1 rfl (Nat.le_of_ble_eq_true rfl) d_Mod_format_7) hD hS (fun H locs hP hD hS => ?_)
  refine lv_if_eq (tgt := 25) hx hb d_Mod_format_10 (by decide) (fun hc => ?_) (fun hc => ?_)
  · have h := if_t hc h
    exact v_Mod_format_25 X  hP hD hS (lv_sub hl [0, 1, 2] rfl) h
  · have h := if_f hc h
    refine lv_iload_n hx hb d_Mod_format_13 rfl (lv_at hl 2 rfl) ?_
    refine lv_bipush (v := 24) hx hb d_Mod_format_14 (by decide) ?_
    refine lv_iload_n hx hb d_Mod_format_16 rfl (lv_at hl 1 rfl) ?_
    refine lv_iconst (v := 2) hx hb d_Mod_format_17 (by decide) ?_
    refine lv_idiv hx hb d_Mod_format_18 (by decide) ?_
    obtain ⟨v19, e1, h⟩ := bd_some h
    refine fx_i X (fx_runS X (m_Mod_in e1 _) (As := [.int x2, .int (24 : Int32), .int (x1 / (2 : Int32))]) hP hD ks_Mod_144 ⟨Nat.le_of_ble_eq_true rfl, Nat.le_of_ble_eq_true rfl⟩ rfl hl.1 rfl (Nat.le_of_ble_eq_true rfl) d_Mod_format_19) hD hS (fun H locs hP hD hS => ?_)
    refine lv_if_ne (tgt := 29) hx hb d_Mod_format_22 (by decide) (fun hc => ?_) (fun hc => ?_)
    · have h := if_f hc h
      refine lv_iconst (v := 0) hx hb d_Mod_format_29 (by decide) ?_
      exact v_Mod_format_30 X  hP hD hS (lv_sub hl [0, 1, 2] rfl) h
    · have h := if_t hc h
      exact v_Mod_format_25 X  hP hD hS (lv_sub hl [0, 1, 2] rfl) h
theorem d_Mod_feed_0 : decode prog_12_method_19_code 0 = .ok (.aload_n 0, 1) := by decide +kernel
theorem d_Mod_feed_1 : decode prog_12_method_19_code 1 = .ok (.aload_n 0, 1) := by decide +kernel
theorem d_Mod_feed_2 : decode prog_12_method_19_code 2 = .ok (.getfield 158, 3) := by decide +kernel
theorem d_Mod_feed_5 : decode prog_12_method_19_code 5 = .ok (.bipush 20, 2) := by decide +kernel
theorem d_Mod_feed_7 : decode prog_12_method_19_code 7 = .ok (.iadd, 1) := by decide +kernel
theorem d_Mod_feed_8 : decode prog_12_method_19_code 8 = .ok (.sipush 2060, 3) := by decide +kernel
theorem d_Mod_feed_11 : decode prog_12_method_19_code 11 = .ok (.if_icmp .le 7, 3) := by decide +kernel
theorem d_Mod_feed_14 : decode prog_12_method_19_code 14 = .ok (.iconst 1, 1) := by decide +kernel
theorem d_Mod_feed_15 : decode prog_12_method_19_code 15 = .ok (.goto 4, 3) := by decide +kernel
theorem d_Mod_feed_18 : decode prog_12_method_19_code 18 = .ok (.iconst 0, 1) := by decide +kernel
theorem d_Mod_feed_19 : decode prog_12_method_19_code 19 = .ok (.iconst 0, 1) := by decide +kernel
theorem d_Mod_feed_20 : decode prog_12_method_19_code 20 = .ok (.invokevirtual 148, 3) := by decide +kernel
theorem d_Mod_feed_23 : decode prog_12_method_19_code 23 = .ok (.ifCond .eq 5, 3) := by decide +kernel
theorem d_Mod_feed_26 : decode prog_12_method_19_code 26 = .ok (.iconst 0, 1) := by decide +kernel
theorem d_Mod_feed_27 : decode prog_12_method_19_code 27 = .ok (.ireturn, 1) := by decide +kernel
theorem d_Mod_feed_28 : decode prog_12_method_19_code 28 = .ok (.iconst 0, 1) := by decide +kernel
theorem d_Mod_feed_29 : decode prog_12_method_19_code 29 = .ok (.istore 6, 2) := by decide +kernel
theorem d_Mod_feed_31 : decode prog_12_method_19_code 31 = .ok (.iload 6, 2) := by decide +kernel
theorem d_Mod_feed_33 : decode prog_12_method_19_code 33 = .ok (.iconst 5, 1) := by decide +kernel
theorem d_Mod_feed_34 : decode prog_12_method_19_code 34 = .ok (.if_icmp .ge 93, 3) := by decide +kernel
theorem d_Mod_feed_37 : decode prog_12_method_19_code 37 = .ok (.iload 6, 2) := by decide +kernel
theorem d_Mod_feed_39 : decode prog_12_method_19_code 39 = .ok (.ifCond .ne 7, 3) := by decide +kernel
theorem d_Mod_feed_42 : decode prog_12_method_19_code 42 = .ok (.iload_n 1, 1) := by decide +kernel
theorem d_Mod_feed_43 : decode prog_12_method_19_code 43 = .ok (.goto 36, 3) := by decide +kernel
theorem d_Mod_feed_46 : decode prog_12_method_19_code 46 = .ok (.iload 6, 2) := by decide +kernel
theorem d_Mod_feed_48 : decode prog_12_method_19_code 48 = .ok (.iconst 1, 1) := by decide +kernel
theorem d_Mod_feed_49 : decode prog_12_method_19_code 49 = .ok (.if_icmp .ne 7, 3) := by decide +kernel
theorem d_Mod_feed_52 : decode prog_12_method_19_code 52 = .ok (.iload_n 2, 1) := by decide +kernel
theorem d_Mod_feed_53 : decode prog_12_method_19_code 53 = .ok (.goto 26, 3) := by decide +kernel
theorem d_Mod_feed_56 : decode prog_12_method_19_code 56 = .ok (.iload 6, 2) := by decide +kernel
theorem d_Mod_feed_58 : decode prog_12_method_19_code 58 = .ok (.iconst 2, 1) := by decide +kernel
theorem d_Mod_feed_59 : decode prog_12_method_19_code 59 = .ok (.if_icmp .ne 7, 3) := by decide +kernel
theorem d_Mod_feed_62 : decode prog_12_method_19_code 62 = .ok (.iload_n 3, 1) := by decide +kernel
theorem d_Mod_feed_63 : decode prog_12_method_19_code 63 = .ok (.goto 16, 3) := by decide +kernel
theorem d_Mod_feed_66 : decode prog_12_method_19_code 66 = .ok (.iload 6, 2) := by decide +kernel
theorem d_Mod_feed_68 : decode prog_12_method_19_code 68 = .ok (.iconst 3, 1) := by decide +kernel
theorem d_Mod_feed_69 : decode prog_12_method_19_code 69 = .ok (.if_icmp .ne 8, 3) := by decide +kernel
theorem d_Mod_feed_72 : decode prog_12_method_19_code 72 = .ok (.iload 4, 2) := by decide +kernel
theorem d_Mod_feed_74 : decode prog_12_method_19_code 74 = .ok (.goto 5, 3) := by decide +kernel
theorem d_Mod_feed_77 : decode prog_12_method_19_code 77 = .ok (.iload 5, 2) := by decide +kernel
theorem d_Mod_feed_79 : decode prog_12_method_19_code 79 = .ok (.istore 7, 2) := by decide +kernel
theorem d_Mod_feed_81 : decode prog_12_method_19_code 81 = .ok (.bipush 24, 2) := by decide +kernel
theorem d_Mod_feed_83 : decode prog_12_method_19_code 83 = .ok (.istore 8, 2) := by decide +kernel
theorem d_Mod_feed_85 : decode prog_12_method_19_code 85 = .ok (.iload 8, 2) := by decide +kernel
theorem d_Mod_feed_87 : decode prog_12_method_19_code 87 = .ok (.ifCond .lt 34, 3) := by decide +kernel
theorem d_Mod_feed_90 : decode prog_12_method_19_code 90 = .ok (.aload_n 0, 1) := by decide +kernel
theorem d_Mod_feed_91 : decode prog_12_method_19_code 91 = .ok (.getfield 13, 3) := by decide +kernel
theorem d_Mod_feed_94 : decode prog_12_method_19_code 94 = .ok (.aload_n 0, 1) := by decide +kernel
theorem d_Mod_feed_95 : decode prog_12_method_19_code 95 = .ok (.getfield 158, 3) := by decide +kernel
theorem d_Mod_feed_98 : decode prog_12_method_19_code 98 = .ok (.iload 7, 2) := by decide +kernel
theorem d_Mod_feed_100 : decode prog_12_method_19_code 100 = .ok (.iload 8, 2) := by decide +kernel
theorem d_Mod_feed_102 : decode prog_12_method_19_code 102 = .ok (.ishr, 1) := by decide +kernel
theorem d_Mod_feed_103 : decode prog_12_method_19_code 103 = .ok (.i2b, 1) := by decide +kernel
theorem d_Mod_feed_104 : decode prog_12_method_19_code 104 = .ok (.bastore, 1) := by decide +kernel
theorem d_Mod_feed_105 : decode prog_12_method_19_code 105 = .ok (.aload_n 0, 1) := by decide +kernel
theorem d_Mod_feed_106 : decode prog_12_method_19_code 106 = .ok (.dup, 1) := by decide +kernel
theorem d_Mod_feed_107 : decode prog_12_method_19_code 107 = .ok (.getfield 158, 3) := by decide +kernel
theorem d_Mod_feed_110 : decode prog_12_method_19_code 110 = .ok (.iconst 1, 1) := by decide +kernel
theorem d_Mod_feed_111 : decode prog_12_method_19_code 111 = .ok (.iadd, 1) := by decide +kernel
theorem d_Mod_feed_112 : decode prog_12_method_19_code 112 = .ok (.putfield 158, 3) := by decide +kernel
theorem d_Mod_feed_115 : decode prog_12_method_19_code 115 = .ok (.iinc 8 (-8), 3) := by decide +kernel
theorem d_Mod_feed_118 : decode prog_12_method_19_code 118 = .ok (.goto (-33), 3) := by decide +kernel
theorem d_Mod_feed_121 : decode prog_12_method_19_code 121 = .ok (.iinc 6 1, 3) := by decide +kernel
theorem d_Mod_feed_124 : decode prog_12_method_19_code 124 = .ok (.goto (-93), 3) := by decide +kernel
theorem d_Mod_feed_127 : decode prog_12_method_19_code 127 = .ok (.aload_n 0, 1) := by decide +kernel
theorem d_Mod_feed_128 : decode prog_12_method_19_code 128 = .ok (.getfield 158, 3) := by decide +kernel
theorem d_Mod_feed_131 : decode prog_12_method_19_code 131 = .ok (.ireturn, 1) := by decide +kernel
set_option maxHeartbeats 4000000 in
set_option maxRecDepth 100000 in
theorem v_Mod_feed_85 {p : Program} {l : Launch} {e : Env} {s : State} {m : MethodId} {args : Array Value} {below : List Frame} {meth : Method} {c : Code} {D : va_G} {ad : Nat → Nat} {ca : Nat → ClassId} {A : Nat → Prop} {FU : Nat} {q : Int32 × St} (X : FX p s m meth c prog_12_method_19_code 9 (some .int) "FlashFilesModel" D (tyM ca) A) {k31 : Int32 → Int32 → Int32 → Int32 → Int32 → Int32 → St → Option (Int32 × St)} (hk31 : ∀ (y1 y2 y3 y4 y5 y6 : Int32) (g : St) (H : Heap) (locs : List Loc) (ls : Array Slot), va_P D cls (wM ad ca g) H → va_D A (wM ad ca g) → va_S A s.heap H locs → lv_has ls 9 [(0, .ref (ad 0)), (1, .int y1), (2, .int y2), (3, .int y3), (4, .int y4), (5, .int y5), (6, .int y6)] → k31 y1 y2 y3 y4 y5 y6 g = some q → W p l e (rmN 2) s m args below meth c H locs 0 0 (MQ below (fxQi D (tyM ca) A (wM ad ca q.2) q.1) args s 0 0 A) (F0 m 31 ls [])) : ∀ (n : Nat), ∀ (y1 y2 y3 y4 y5 y6 y7 y8 : Int32) (g : St) (H : Heap) (locs : List Loc) (ls : Array Slot), va_P D cls (wM ad ca g) H → va_D A (wM ad ca g) → va_S A s.heap H locs → lv_has ls 9 [(0, .ref (ad 0)), (1, .int y1), (2, .int y2), (3, .int y3), (4, .int y4), (5, .int y5), (6, .int y6), (7, .int y7), (8, .int y8)] → Mod_feed_b85 FU k31 n y1 y2 y3 y4 y5 y6 y7 y8 g = some q → W p l e (rmN 2) s m args below meth c H locs 0 0 (MQ below (fxQi D (tyM ca) A (wM ad ca q.2) q.1) args s 0 0 A) (F0 m 85 ls []) := by
  have hx := X.1
  have hb := X.2.1
  intro n
  induction n with
  | zero =>
    intro y1 y2 y3 y4 y5 y6 y7 y8 g H locs ls hP hD hS hl h
    cases h
  | succ n ih =>
    intro y1 y2 y3 y4 y5 y6 y7 y8 g H locs ls hP hD hS hl h
    have h := h
    rw [Mod_feed_b85.eq_2] at h
    refine lv_iload hx hb d_Mod_feed_85 (lv_at hl 8 rfl) ?_
    refine lv_if_lt (tgt := 121) hx hb d_Mod_feed_87 (by decide) (fun hc => ?_) (fun hc => ?_)
    · have h := if_t hc h
      refine lv_iinc (k := 6) (v := (y6 + (1 : Int32))) hx hb d_Mod_feed_121 hl rfl (oi_1 _) (by decide) rfl (fun ls hl => ?_)
      have hl : lv_has ls 9 [(6, .int (y6 + (1 : Int32))), (0, .ref (ad 0)), (1, .int y1), (2, .int y2), (3, .int y3), (4, .int y4), (5, .int y5), (7, .int y7), (8, .int y8)] := hl
      refine lv_goto (tgt := 31) hx hb d_Mod_feed_124 (by decide) ?_
      exact hk31 _ _ _ _ _ _ _ _ _ _ hP hD hS (lv_sub hl [1, 2, 3, 4, 5, 6, 0] rfl) h
    · have h := if_f hc h
      refine lv_aload_n hx hb d_Mod_feed_90 rfl (lv_at hl 0 rfl) ?_
      refine gM_mod_tape X hP d_Mod_feed_91 ?_
      refine lv_aload_n hx hb d_Mod_feed_94 rfl (lv_at hl 0 rfl) ?_
      refine gM_mod_taped X hP d_Mod_feed_95 ?_
      refine lv_iload hx hb d_Mod_feed_98 (lv_at hl 7 rfl) ?_
      refine lv_iload hx hb d_Mod_feed_100 (lv_at hl 8 rfl) ?_
      refine lv_ishr hx hb d_Mod_feed_102 ?_
      refine lv_i2b (v := (y7 >>> (y8 &&& 31)).toInt8.toInt32) hx hb d_Mod_feed_103 rfl ?_
      obtain ⟨g1, e1, h⟩ := bd_some h
      refine sM_0 X hP hD hS e1 d_Mod_feed_104 (fun H locs hP hD hS => ?_)
      refine lv_aload_n hx hb d_Mod_feed_105 rfl (lv_at hl 0 rfl) ?_
      refine lv_dup hx hb d_Mod_feed_106 rfl ?_
      refine gM_mod_taped X hP d_Mod_feed_107 ?_
      refine lv_iconst (v := 1) hx hb d_Mod_feed_110 (by decide) ?_
      refine lv_iadd hx hb d_Mod_feed_111 ?_
      obtain ⟨g2, e1, h⟩ := nx_some h
      refine uM_mod_taped X hP hD hS e1 d_Mod_feed_112 (fun H locs hP hD hS => ?_)
      refine lv_iinc (k := 8) (v := (y8 + (-8 : Int32))) hx hb d_Mod_feed_115 hl rfl (oi_m8 _) (by decide) rfl (fun ls hl => ?_)
      have hl : lv_has ls 9 [(8, .int (y8 + (-8 : Int32))), (0, .ref (ad 0)), (1, .int y1), (2, .int y2), (3, .int y3), (4, .int y4), (5, .int y5), (6, .int y6), (7, .int y7)] := hl
      refine lv_goto (tgt := 85) hx hb d_Mod_feed_118 (by decide) ?_
      exact ih _ _ _ _ _ _ _ _ _ _ _ _ hP hD hS (lv_sub hl [1, 2, 3, 4, 5, 6, 7, 8, 0] rfl) h
set_option maxHeartbeats 4000000 in
set_option maxRecDepth 100000 in
theorem v_Mod_feed_79 {p : Program} {l : Launch} {e : Env} {s : State} {m : MethodId} {args : Array Value} {below : List Frame} {meth : Method} {c : Code} {D : va_G} {ad : Nat → Nat} {ca : Nat → ClassId} {A : Nat → Prop} {FU : Nat} {q : Int32 × St} (X : FX p s m meth c prog_12_method_19_code 9 (some .int) "FlashFilesModel" D (tyM ca) A) {k31 : Int32 → Int32 → Int32 → Int32 → Int32 → Int32 → St → Option (Int32 × St)} (hk31 : ∀ (y1 y2 y3 y4 y5 y6 : Int32) (g : St) (H : Heap) (locs : List Loc) (ls : Array Slot), va_P D cls (wM ad ca g) H → va_D A (wM ad ca g) → va_S A s.heap H locs → lv_has ls 9 [(0, .ref (ad 0)), (1, .int y1), (2, .int y2), (3, .int y3), (4, .int y4), (5, .int y5), (6, .int y6)] → k31 y1 y2 y3 y4 y5 y6 g = some q → W p l e (rmN 2) s m args below meth c H locs 0 0 (MQ below (fxQi D (tyM ca) A (wM ad ca q.2) q.1) args s 0 0 A) (F0 m 31 ls [])) {y1 : Int32} {y2 : Int32} {y3 : Int32} {y4 : Int32} {y5 : Int32} {y6 : Int32} {z0 : Int32} {g : St} {H : Heap} {locs : List Loc} {ls : Array Slot} (hP : va_P D cls (wM ad ca g) H) (hD : va_D A (wM ad ca g)) (hS : va_S A s.heap H locs) (hl : lv_has ls 9 [(0, .ref (ad 0)), (1, .int y1), (2, .int y2), (3, .int y3), (4, .int y4), (5, .int y5), (6, .int y6)]) (h : Mod_feed_b79 FU k31 y1 y2 y3 y4 y5 y6 z0 g = some q) : W p l e (rmN 2) s m args below meth c H locs 0 0 (MQ below (fxQi D (tyM ca) A (wM ad ca q.2) q.1) args s 0 0 A) (F0 m 79 ls [.int z0]) := by
  have hx := X.1
  have hb := X.2.1
  unfold Mod_feed_b79 at h
  refine lv_istore hx hb d_Mod_feed_79 hl (by decide) rfl (fun ls hl => ?_)
  have hl : lv_has ls 9 [(7, .int z0), (0, .ref (ad 0)), (1, .int y1), (2, .int y2), (3, .int y3), (4, .int y4), (5, .int y5), (6, .int y6)] := hl
  refine lv_bipush (v := 24) hx hb d_Mod_feed_81 (by decide) ?_
  refine lv_istore hx hb d_Mod_feed_83 hl (by decide) rfl (fun ls hl => ?_)
  have hl : lv_has ls 9 [(8, .int (24 : Int32)), (7, .int z0), (0, .ref (ad 0)), (1, .int y1), (2, .int y2), (3, .int y3), (4, .int y4), (5, .int y5), (6, .int y6)] := hl
  exact v_Mod_feed_85 X hk31 _ _ _ _ _ _ _ _ _ _ _ _ _ hP hD hS (lv_sub hl [2, 3, 4, 5, 6, 7, 8, 1, 0] rfl) h
set_option maxHeartbeats 4000000 in
set_option maxRecDepth 100000 in
theorem v_Mod_feed_31 {p : Program} {l : Launch} {e : Env} {s : State} {m : MethodId} {args : Array Value} {below : List Frame} {meth : Method} {c : Code} {D : va_G} {ad : Nat → Nat} {ca : Nat → ClassId} {A : Nat → Prop} {FU : Nat} {q : Int32 × St} (X : FX p s m meth c prog_12_method_19_code 9 (some .int) "FlashFilesModel" D (tyM ca) A) : ∀ (n : Nat), ∀ (y1 y2 y3 y4 y5 y6 : Int32) (g : St) (H : Heap) (locs : List Loc) (ls : Array Slot), va_P D cls (wM ad ca g) H → va_D A (wM ad ca g) → va_S A s.heap H locs → lv_has ls 9 [(0, .ref (ad 0)), (1, .int y1), (2, .int y2), (3, .int y3), (4, .int y4), (5, .int y5), (6, .int y6)] → Mod_feed_b31 FU n y1 y2 y3 y4 y5 y6 g = some q → W p l e (rmN 2) s m args below meth c H locs 0 0 (MQ below (fxQi D (tyM ca) A (wM ad ca q.2) q.1) args s 0 0 A) (F0 m 31 ls []) := by
  have hx := X.1
  have hb := X.2.1
  intro n
  induction n with
  | zero =>
    intro y1 y2 y3 y4 y5 y6 g H locs ls hP hD hS hl h
    cases h
  | succ n ih =>
    intro y1 y2 y3 y4 y5 y6 g H locs ls hP hD hS hl h
    have h := h
    rw [Mod_feed_b31.eq_2] at h
    refine lv_iload hx hb d_Mod_feed_31 (lv_at hl 6 rfl) ?_
    refine lv_iconst (v := 5) hx hb d_Mod_feed_33 (by decide) ?_
    refine lv_icmp_ge (tgt := 127) hx hb d_Mod_feed_34 (by decide) (fun hc => ?_) (fun hc => ?_)
    · have h := if_t hc h
      refine lv_aload_n hx hb d_Mod_feed_127 rfl (lv_at hl 0 rfl) ?_
      refine gM_mod_taped X hP d_Mod_feed_128 ?_
      cases h
      exact fx_iret X hP hD hS d_Mod_feed_131
    · have h := if_f hc h
      refine lv_iload hx hb d_Mod_feed_37 (lv_at hl 6 rfl) ?_
      refine lv_if_ne (tgt := 46) hx hb d_Mod_feed_39 (by decide) (fun hc => ?_) (fun hc => ?_)
      · have h := if_f hc h
        refine lv_iload hx hb d_Mod_feed_46 (lv_at hl 6 rfl) ?_
        refine lv_iconst (v := 1) hx hb d_Mod_feed_48 (by decide) ?_
        refine lv_icmp_ne (tgt := 56) hx hb d_Mod_feed_49 (by decide) (fun hc => ?_) (fun hc => ?_)
        · have h := if_f hc h
          refine lv_iload hx hb d_Mod_feed_56 (lv_at hl 6 rfl) ?_
          refine lv_iconst (v := 2) hx hb d_Mod_feed_58 (by decide) ?_
          refine lv_icmp_ne (tgt := 66) hx hb d_Mod_feed_59 (by decide) (fun hc => ?_) (fun hc => ?_)
          · have h := if_f hc h
            refine lv_iload hx hb d_Mod_feed_66 (lv_at hl 6 rfl) ?_
            refine lv_iconst (v := 3) hx hb d_Mod_feed_68 (by decide) ?_
            refine lv_icmp_ne (tgt := 77) hx hb d_Mod_feed_69 (by decide) (fun hc => ?_) (fun hc => ?_)
            · have h := if_f hc h
              refine lv_iload hx hb d_Mod_feed_77 (lv_at hl 5 rfl) ?_
              exact v_Mod_feed_79 X ih hP hD hS (lv_sub hl [0, 1, 2, 3, 4, 5, 6] rfl) h
            · have h := if_t hc h
              refine lv_iload hx hb d_Mod_feed_72 (lv_at hl 4 rfl) ?_
              refine lv_goto (tgt := 79) hx hb d_Mod_feed_74 (by decide) ?_
              exact v_Mod_feed_79 X ih hP hD hS (lv_sub hl [0, 1, 2, 3, 4, 5, 6] rfl) h
          · have h := if_t hc h
            refine lv_iload_n hx hb d_Mod_feed_62 rfl (lv_at hl 3 rfl) ?_
            refine lv_goto (tgt := 79) hx hb d_Mod_feed_63 (by decide) ?_
            exact v_Mod_feed_79 X ih hP hD hS (lv_sub hl [0, 1, 2, 3, 4, 5, 6] rfl) h
        · have h := if_t hc h
          refine lv_iload_n hx hb d_Mod_feed_52 rfl (lv_at hl 2 rfl) ?_
          refine lv_goto (tgt := 79) hx hb d_Mod_feed_53 (by decide) ?_
          exact v_Mod_feed_79 X ih hP hD hS (lv_sub hl [0, 1, 2, 3, 4, 5, 6] rfl) h
      · have h := if_t hc h
        refine lv_iload_n hx hb d_Mod_feed_42 rfl (lv_at hl 1 rfl) ?_
        refine lv_goto (tgt := 79) hx hb d_Mod_feed_43 (by decide) ?_
        exact v_Mod_feed_79 X ih hP hD hS (lv_sub hl [0, 1, 2, 3, 4, 5, 6] rfl) h
set_option maxHeartbeats 4000000 in
set_option maxRecDepth 100000 in
theorem v_Mod_feed_19 {p : Program} {l : Launch} {e : Env} {s : State} {m : MethodId} {args : Array Value} {below : List Frame} {meth : Method} {c : Code} {D : va_G} {ad : Nat → Nat} {ca : Nat → ClassId} {A : Nat → Prop} {FU : Nat} {q : Int32 × St} (X : FX p s m meth c prog_12_method_19_code 9 (some .int) "FlashFilesModel" D (tyM ca) A) {y1 : Int32} {y2 : Int32} {y3 : Int32} {y4 : Int32} {y5 : Int32} {z0 : Int32} {g : St} {H : Heap} {locs : List Loc} {ls : Array Slot} (hP : va_P D cls (wM ad ca g) H) (hD : va_D A (wM ad ca g)) (hS : va_S A s.heap H locs) (hl : lv_has ls 9 [(0, .ref (ad 0)), (1, .int y1), (2, .int y2), (3, .int y3), (4, .int y4), (5, .int y5)]) (h : Mod_feed_b19 FU y1 y2 y3 y4 y5 z0 g = some q) : W p l e (rmN 2) s m args below meth c H locs 0 0 (MQ below (fxQi D (tyM ca) A (wM ad ca q.2) q.1) args s 0 0 A) (F0 m 19 ls [.int z0, .ref (ad 0)]) := by
  have hx := X.1
  have hb := X.2.1
  unfold Mod_feed_b19 at h
  refine lv_iconst (v := 0) hx hb d_Mod_feed_19 (by decide) ?_
  obtain ⟨p3, e1, h⟩ := bd_some h
  refine fx_i X (fx_runV (As := [.int z0, .int (0 : Int32)]) X (m_Mod_throwing e1 _) hP hD kv_Mod_148 ⟨Nat.le_of_ble_eq_true rfl, Nat.le_of_ble_eq_true rfl⟩ 0 rfl rfl rfl hl.1 rfl (Nat.le_of_ble_eq_true rfl) d_Mod_feed_20) hD hS (fun H locs hP hD hS => ?_)
  refine lv_if_eq (tgt := 28) hx hb d_Mod_feed_23 (by decide) (fun hc => ?_) (fun hc => ?_)
  · have h := if_t hc h
    refine lv_iconst (v := 0) hx hb d_Mod_feed_28 (by decide) ?_
    refine lv_istore hx hb d_Mod_feed_29 hl (by decide) rfl (fun ls hl => ?_)
    have hl : lv_has ls 9 [(6, .int (0 : Int32)), (0, .ref (ad 0)), (1, .int y1), (2, .int y2), (3, .int y3), (4, .int y4), (5, .int y5)] := hl
    exact v_Mod_feed_31 X  _ _ _ _ _ _ _ _ _ _ _ hP hD hS (lv_sub hl [1, 2, 3, 4, 5, 6, 0] rfl) h
  · have h := if_f hc h
    refine lv_iconst (v := 0) hx hb d_Mod_feed_26 (by decide) ?_
    cases h
    exact fx_iret X hP hD hS d_Mod_feed_27
set_option maxHeartbeats 4000000 in
set_option maxRecDepth 100000 in
theorem m_Mod_feed {l : Launch} {D : va_G} {ad : Nat → Nat} {ca : Nat → ClassId} {FU : Nat} {x1 : Int32} {x2 : Int32} {x3 : Int32} {x4 : Int32} {x5 : Int32} {g : St} {q : Int32 × St} (h : Mod_feed FU x1 x2 x3 x4 x5 g = some q) : CI l ⟨"FlashFilesModel", "feed", "(IIIII)I"⟩ prog_12_method_19_code 9 2 (some .int) D (tyM ca) (wM ad ca g) [.ref (ad 0), .int x1, .int x2, .int x3, .int x4, .int x5] q.1 (wM ad ca q.2) := by
  intro sz
  refine Met.fx (Qc := fun A => fxQi D (tyM ca) A (wM ad ca q.2) q.1) (by decide) (Nat.le_of_ble_eq_true rfl) ?_
  intro p e s m below meth c A ls X hP hD hl
  have hl : lv_has ls 9 [(0, .ref (ad 0)), (1, .int x1), (2, .int x2), (3, .int x3), (4, .int x4), (5, .int x5)] := hl
  have hS : va_S A s.heap s.heap [] := va_S.rf
  have hx := X.1
  have hb := X.2.1
  unfold Mod_feed at h
  refine lv_aload_n hx hb d_Mod_feed_0 rfl (lv_at hl 0 rfl) ?_
  refine lv_aload_n hx hb d_Mod_feed_1 rfl (lv_at hl 0 rfl) ?_
  refine gM_mod_taped X hP d_Mod_feed_2 ?_
  refine lv_bipush (v := 20) hx hb d_Mod_feed_5 (by decide) ?_
  refine lv_iadd hx hb d_Mod_feed_7 ?_
  refine lv_sipush (v := 2060) hx hb d_Mod_feed_8 (by decide) ?_
  refine lv_icmp_le (tgt := 18) hx hb d_Mod_feed_11 (by decide) (fun hc => ?_) (fun hc => ?_)
  · have h := if_t hc h
    refine lv_iconst (v := 0) hx hb d_Mod_feed_18 (by decide) ?_
    exact v_Mod_feed_19 X  hP hD hS (lv_sub hl [0, 1, 2, 3, 4, 5] rfl) h
  · have h := if_f hc h
    refine lv_iconst (v := 1) hx hb d_Mod_feed_14 (by decide) ?_
    refine lv_goto (tgt := 19) hx hb d_Mod_feed_15 (by decide) ?_
    exact v_Mod_feed_19 X  hP hD hS (lv_sub hl [0, 1, 2, 3, 4, 5] rfl) h
theorem d_Mod_tape_0 : decode prog_12_method_20_code 0 = .ok (.aload_n 0, 1) := by decide +kernel
theorem d_Mod_tape_1 : decode prog_12_method_20_code 1 = .ok (.iconst 0, 1) := by decide +kernel
theorem d_Mod_tape_2 : decode prog_12_method_20_code 2 = .ok (.putfield 76, 3) := by decide +kernel
theorem d_Mod_tape_5 : decode prog_12_method_20_code 5 = .ok (.iload_n 1, 1) := by decide +kernel
theorem d_Mod_tape_6 : decode prog_12_method_20_code 6 = .ok (.ifCond .le 16, 3) := by decide +kernel
theorem d_Mod_tape_9 : decode prog_12_method_20_code 9 = .ok (.iload_n 1, 1) := by decide +kernel
theorem d_Mod_tape_10 : decode prog_12_method_20_code 10 = .ok (.aload_n 0, 1) := by decide +kernel
theorem d_Mod_tape_11 : decode prog_12_method_20_code 11 = .ok (.getfield 158, 3) := by decide +kernel
theorem d_Mod_tape_14 : decode prog_12_method_20_code 14 = .ok (.if_icmp .ge 8, 3) := by decide +kernel
theorem d_Mod_tape_17 : decode prog_12_method_20_code 17 = .ok (.aload_n 0, 1) := by decide +kernel
theorem d_Mod_tape_18 : decode prog_12_method_20_code 18 = .ok (.iload_n 1, 1) := by decide +kernel
theorem d_Mod_tape_19 : decode prog_12_method_20_code 19 = .ok (.putfield 158, 3) := by decide +kernel
theorem d_Mod_tape_22 : decode prog_12_method_20_code 22 = .ok (.aload_n 0, 1) := by decide +kernel
theorem d_Mod_tape_23 : decode prog_12_method_20_code 23 = .ok (.getfield 158, 3) := by decide +kernel
theorem d_Mod_tape_26 : decode prog_12_method_20_code 26 = .ok (.ireturn, 1) := by decide +kernel
set_option maxHeartbeats 4000000 in
set_option maxRecDepth 100000 in
theorem m_Mod_tape {l : Launch} {D : va_G} {ad : Nat → Nat} {ca : Nat → ClassId} {FU : Nat} {x1 : Int32} {g : St} {q : Int32 × St} (h : Mod_tape FU x1 g = some q) : CI l ⟨"FlashFilesModel", "tape", "(I)I"⟩ prog_12_method_20_code 2 1 (some .int) D (tyM ca) (wM ad ca g) [.ref (ad 0), .int x1] q.1 (wM ad ca q.2) := by
  intro sz
  refine Met.fx (Qc := fun A => fxQi D (tyM ca) A (wM ad ca q.2) q.1) (by decide) (Nat.le_of_ble_eq_true rfl) ?_
  intro p e s m below meth c A ls X hP hD hl
  have hl : lv_has ls 2 [(0, .ref (ad 0)), (1, .int x1)] := hl
  have hS : va_S A s.heap s.heap [] := va_S.rf
  have hx := X.1
  have hb := X.2.1
  unfold Mod_tape at h
  refine lv_aload_n hx hb d_Mod_tape_0 rfl (lv_at hl 0 rfl) ?_
  refine lv_iconst (v := 0) hx hb d_Mod_tape_1 (by decide) ?_
  obtain ⟨g1, e1, h⟩ := nx_some h
  refine uM_mod_thrown X hP hD hS e1 d_Mod_tape_2 (fun H locs hP hD hS => ?_)
  refine lv_iload_n hx hb d_Mod_tape_5 rfl (lv_at hl 1 rfl) ?_
  refine lv_if_le (tgt := 22) hx hb d_Mod_tape_6 (by decide) (fun hc => ?_) (fun hc => ?_)
  · have h := if_t hc h
    refine lv_aload_n hx hb d_Mod_tape_22 rfl (lv_at hl 0 rfl) ?_
    refine gM_mod_taped X hP d_Mod_tape_23 ?_
    cases h
    exact fx_iret X hP hD hS d_Mod_tape_26
  · have h := if_f hc h
    refine lv_iload_n hx hb d_Mod_tape_9 rfl (lv_at hl 1 rfl) ?_
    refine lv_aload_n hx hb d_Mod_tape_10 rfl (lv_at hl 0 rfl) ?_
    refine gM_mod_taped X hP d_Mod_tape_11 ?_
    refine lv_icmp_ge (tgt := 22) hx hb d_Mod_tape_14 (by decide) (fun hc => ?_) (fun hc => ?_)
    · have h := if_t hc h
      refine lv_aload_n hx hb d_Mod_tape_22 rfl (lv_at hl 0 rfl) ?_
      refine gM_mod_taped X hP d_Mod_tape_23 ?_
      cases h
      exact fx_iret X hP hD hS d_Mod_tape_26
    · have h := if_f hc h
      refine lv_aload_n hx hb d_Mod_tape_17 rfl (lv_at hl 0 rfl) ?_
      refine lv_iload_n hx hb d_Mod_tape_18 rfl (lv_at hl 1 rfl) ?_
      obtain ⟨g2, e1, h⟩ := nx_some h
      refine uM_mod_taped X hP hD hS e1 d_Mod_tape_19 (fun H locs hP hD hS => ?_)
      refine lv_aload_n hx hb d_Mod_tape_22 rfl (lv_at hl 0 rfl) ?_
      refine gM_mod_taped X hP d_Mod_tape_23 ?_
      cases h
      exact fx_iret X hP hD hS d_Mod_tape_26
theorem d_Mod_isOff_0 : decode prog_12_method_21_code 0 = .ok (.aload_n 0, 1) := by decide +kernel
theorem d_Mod_isOff_1 : decode prog_12_method_21_code 1 = .ok (.iconst 0, 1) := by decide +kernel
theorem d_Mod_isOff_2 : decode prog_12_method_21_code 2 = .ok (.aload_n 0, 1) := by decide +kernel
theorem d_Mod_isOff_3 : decode prog_12_method_21_code 3 = .ok (.getfield 107, 3) := by decide +kernel
theorem d_Mod_isOff_6 : decode prog_12_method_21_code 6 = .ok (.ifCond .ne 7, 3) := by decide +kernel
theorem d_Mod_isOff_9 : decode prog_12_method_21_code 9 = .ok (.iconst 1, 1) := by decide +kernel
theorem d_Mod_isOff_10 : decode prog_12_method_21_code 10 = .ok (.goto 4, 3) := by decide +kernel
theorem d_Mod_isOff_13 : decode prog_12_method_21_code 13 = .ok (.iconst 0, 1) := by decide +kernel
theorem d_Mod_isOff_14 : decode prog_12_method_21_code 14 = .ok (.invokevirtual 148, 3) := by decide +kernel
theorem d_Mod_isOff_17 : decode prog_12_method_21_code 17 = .ok (.ireturn, 1) := by decide +kernel
set_option maxHeartbeats 4000000 in
set_option maxRecDepth 100000 in
theorem v_Mod_isOff_14 {p : Program} {l : Launch} {e : Env} {s : State} {m : MethodId} {args : Array Value} {below : List Frame} {meth : Method} {c : Code} {D : va_G} {ad : Nat → Nat} {ca : Nat → ClassId} {A : Nat → Prop} {FU : Nat} {q : Int32 × St} (X : FX p s m meth c prog_12_method_21_code 1 (some .boolean) "FlashFilesModel" D (tyM ca) A) {z0 : Int32} {z1 : Int32} {g : St} {H : Heap} {locs : List Loc} {ls : Array Slot} (hP : va_P D cls (wM ad ca g) H) (hD : va_D A (wM ad ca g)) (hS : va_S A s.heap H locs) (hl : lv_has ls 1 []) (h : Mod_isOff_b14 FU z0 z1 g = some q) : W p l e (rmN 2) s m args below meth c H locs 0 0 (MQ below (fxQi D (tyM ca) A (wM ad ca q.2) q.1) args s 0 0 A) (F0 m 14 ls [.int z0, .int z1, .ref (ad 0)]) := by
  have hx := X.1
  have hb := X.2.1
  unfold Mod_isOff_b14 at h
  obtain ⟨p1, e1, h⟩ := bd_some h
  refine fx_i X (fx_runV (As := [.int z1, .int z0]) X (m_Mod_throwing e1 _) hP hD kv_Mod_148 ⟨Nat.le_of_ble_eq_true rfl, Nat.le_of_ble_eq_true rfl⟩ 0 rfl rfl rfl hl.1 rfl (Nat.le_of_ble_eq_true rfl) d_Mod_isOff_14) hD hS (fun H locs hP hD hS => ?_)
  obtain ⟨hz, h⟩ | ⟨hz, h⟩ := if_some h
  rotate_left
  · cases h
  cases h
  exact fx_zret X hP hD hS hz d_Mod_isOff_17
set_option maxHeartbeats 4000000 in
set_option maxRecDepth 100000 in
theorem m_Mod_isOff {l : Launch} {D : va_G} {ad : Nat → Nat} {ca : Nat → ClassId} {FU : Nat} {g : St} {q : Int32 × St} (h : Mod_isOff FU  g = some q) : CI l ⟨"FlashFilesModel", "isOff", "()Z"⟩ prog_12_method_21_code 1 2 (some .boolean) D (tyM ca) (wM ad ca g) [.ref (ad 0)] q.1 (wM ad ca q.2) := by
  intro sz
  refine Met.fx (Qc := fun A => fxQi D (tyM ca) A (wM ad ca q.2) q.1) (by decide) (Nat.le_of_ble_eq_true rfl) ?_
  intro p e s m below meth c A ls X hP hD hl
  have hl : lv_has ls 1 [(0, .ref (ad 0))] := hl
  have hS : va_S A s.heap s.heap [] := va_S.rf
  have hx := X.1
  have hb := X.2.1
  unfold Mod_isOff at h
  refine lv_aload_n hx hb d_Mod_isOff_0 rfl (lv_at hl 0 rfl) ?_
  refine lv_iconst (v := 0) hx hb d_Mod_isOff_1 (by decide) ?_
  refine lv_aload_n hx hb d_Mod_isOff_2 rfl (lv_at hl 0 rfl) ?_
  refine gM_mod_mounted X hP d_Mod_isOff_3 ?_
  refine lv_if_ne (tgt := 13) hx hb d_Mod_isOff_6 (by decide) (fun hc => ?_) (fun hc => ?_)
  · have h := if_f hc h
    refine lv_iconst (v := 0) hx hb d_Mod_isOff_13 (by decide) ?_
    exact v_Mod_isOff_14 X  hP hD hS (lv_sub hl [] rfl) h
  · have h := if_t hc h
    refine lv_iconst (v := 1) hx hb d_Mod_isOff_9 (by decide) ?_
    refine lv_goto (tgt := 14) hx hb d_Mod_isOff_10 (by decide) ?_
    exact v_Mod_isOff_14 X  hP hD hS (lv_sub hl [] rfl) h
theorem d_Mod_isId_0 : decode prog_12_method_22_code 0 = .ok (.iload_n 0, 1) := by decide +kernel
theorem d_Mod_isId_1 : decode prog_12_method_22_code 1 = .ok (.iconst 1, 1) := by decide +kernel
theorem d_Mod_isId_2 : decode prog_12_method_22_code 2 = .ok (.sipush 250, 3) := by decide +kernel
theorem d_Mod_isId_5 : decode prog_12_method_22_code 5 = .ok (.invokestatic 144, 3) := by decide +kernel
theorem d_Mod_isId_8 : decode prog_12_method_22_code 8 = .ok (.ireturn, 1) := by decide +kernel
set_option maxHeartbeats 4000000 in
set_option maxRecDepth 100000 in
theorem m_Mod_isId {l : Launch} {D : va_G} {ad : Nat → Nat} {ca : Nat → ClassId} {FU : Nat} {x0 : Int32} {g : St} {q : Int32} (h : Mod_isId FU x0 g = some q) : CI l ⟨"FlashFilesModel", "isId", "(I)Z"⟩ prog_12_method_22_code 1 2 (some .boolean) D (tyM ca) (wM ad ca g) [.int x0] q (wM ad ca g) := by
  intro sz
  refine Met.fx (Qc := fun A => fxQi D (tyM ca) A (wM ad ca g) q) (by decide) (Nat.le_of_ble_eq_true rfl) ?_
  intro p e s m below meth c A ls X hP hD hl
  have hl : lv_has ls 1 [(0, .int x0)] := hl
  have hS : va_S A s.heap s.heap [] := va_S.rf
  have hx := X.1
  have hb := X.2.1
  unfold Mod_isId at h
  refine lv_iload_n hx hb d_Mod_isId_0 rfl (lv_at hl 0 rfl) ?_
  refine lv_iconst (v := 1) hx hb d_Mod_isId_1 (by decide) ?_
  refine lv_sipush (v := 250) hx hb d_Mod_isId_2 (by decide) ?_
  obtain ⟨v1, e1, h⟩ := bd_some h
  refine fx_i X (fx_runS X (m_Mod_in e1 _) (As := [.int x0, .int (1 : Int32), .int (250 : Int32)]) hP hD ks_Mod_144 ⟨Nat.le_of_ble_eq_true rfl, Nat.le_of_ble_eq_true rfl⟩ rfl hl.1 rfl (Nat.le_of_ble_eq_true rfl) d_Mod_isId_5) hD hS (fun H locs hP hD hS => ?_)
  obtain ⟨hz, h⟩ | ⟨hz, h⟩ := if_some h
  rotate_left
  · cases h
  cases h
  exact fx_zret X hP hD hS hz d_Mod_isId_8
theorem d_Mod_is_0 : decode prog_12_method_23_code 0 = .ok (.iload_n 1, 1) := by decide +kernel
theorem d_Mod_is_1 : decode prog_12_method_23_code 1 = .ok (.invokestatic 161, 3) := by decide +kernel
theorem d_Mod_is_4 : decode prog_12_method_23_code 4 = .ok (.ifCond .eq 17, 3) := by decide +kernel
theorem d_Mod_is_7 : decode prog_12_method_23_code 7 = .ok (.aload_n 0, 1) := by decide +kernel
theorem d_Mod_is_8 : decode prog_12_method_23_code 8 = .ok (.getfield 20, 3) := by decide +kernel
theorem d_Mod_is_11 : decode prog_12_method_23_code 11 = .ok (.iload_n 1, 1) := by decide +kernel
theorem d_Mod_is_12 : decode prog_12_method_23_code 12 = .ok (.iaload, 1) := by decide +kernel
theorem d_Mod_is_13 : decode prog_12_method_23_code 13 = .ok (.iload_n 2, 1) := by decide +kernel
theorem d_Mod_is_14 : decode prog_12_method_23_code 14 = .ok (.if_icmp .ne 7, 3) := by decide +kernel
theorem d_Mod_is_17 : decode prog_12_method_23_code 17 = .ok (.iconst 1, 1) := by decide +kernel
theorem d_Mod_is_18 : decode prog_12_method_23_code 18 = .ok (.goto 4, 3) := by decide +kernel
theorem d_Mod_is_21 : decode prog_12_method_23_code 21 = .ok (.iconst 0, 1) := by decide +kernel
theorem d_Mod_is_22 : decode prog_12_method_23_code 22 = .ok (.ireturn, 1) := by decide +kernel
set_option maxHeartbeats 4000000 in
set_option maxRecDepth 100000 in
theorem m_Mod_is {l : Launch} {D : va_G} {ad : Nat → Nat} {ca : Nat → ClassId} {FU : Nat} {x1 : Int32} {x2 : Int32} {g : St} {q : Int32} (h : Mod_is FU x1 x2 g = some q) : CI l ⟨"FlashFilesModel", "is", "(II)Z"⟩ prog_12_method_23_code 3 3 (some .boolean) D (tyM ca) (wM ad ca g) [.ref (ad 0), .int x1, .int x2] q (wM ad ca g) := by
  intro sz
  refine Met.fx (Qc := fun A => fxQi D (tyM ca) A (wM ad ca g) q) (by decide) (Nat.le_of_ble_eq_true rfl) ?_
  intro p e s m below meth c A ls X hP hD hl
  have hl : lv_has ls 3 [(0, .ref (ad 0)), (1, .int x1), (2, .int x2)] := hl
  have hS : va_S A s.heap s.heap [] := va_S.rf
  have hx := X.1
  have hb := X.2.1
  unfold Mod_is at h
  refine lv_iload_n hx hb d_Mod_is_0 rfl (lv_at hl 1 rfl) ?_
  obtain ⟨v1, e1, h⟩ := bd_some h
  refine fx_i X (fx_runS X (m_Mod_isId e1 _) (As := [.int x1]) hP hD ks_Mod_161 ⟨Nat.le_of_ble_eq_true rfl, Nat.le_of_ble_eq_true rfl⟩ rfl hl.1 rfl (Nat.le_of_ble_eq_true rfl) d_Mod_is_1) hD hS (fun H locs hP hD hS => ?_)
  refine lv_if_eq (tgt := 21) hx hb d_Mod_is_4 (by decide) (fun hc => ?_) (fun hc => ?_)
  · have h := if_t hc h
    refine lv_iconst (v := 0) hx hb d_Mod_is_21 (by decide) ?_
    cases h
    exact fx_zret X hP hD hS (Or.inl rfl) d_Mod_is_22
  · have h := if_f hc h
    refine lv_aload_n hx hb d_Mod_is_7 rfl (lv_at hl 0 rfl) ?_
    refine gM_mod_kind X hP d_Mod_is_8 ?_
    refine lv_iload_n hx hb d_Mod_is_11 rfl (lv_at hl 1 rfl) ?_
    obtain ⟨v2, e1, h⟩ := bd_some h
    refine rM_2 X hP e1 d_Mod_is_12 ?_
    refine lv_iload_n hx hb d_Mod_is_13 rfl (lv_at hl 2 rfl) ?_
    refine lv_icmp_ne (tgt := 21) hx hb d_Mod_is_14 (by decide) (fun hc => ?_) (fun hc => ?_)
    · have h := if_f hc h
      refine lv_iconst (v := 0) hx hb d_Mod_is_21 (by decide) ?_
      cases h
      exact fx_zret X hP hD hS (Or.inl rfl) d_Mod_is_22
    · have h := if_t hc h
      refine lv_iconst (v := 1) hx hb d_Mod_is_17 (by decide) ?_
      refine lv_goto (tgt := 22) hx hb d_Mod_is_18 (by decide) ?_
      cases h
      exact fx_zret X hP hD hS (Or.inr rfl) d_Mod_is_22
theorem d_Mod_isName_0 : decode prog_12_method_24_code 0 = .ok (.iload_n 2, 1) := by decide +kernel
theorem d_Mod_isName_1 : decode prog_12_method_24_code 1 = .ok (.iconst 1, 1) := by decide +kernel
theorem d_Mod_isName_2 : decode prog_12_method_24_code 2 = .ok (.bipush 20, 2) := by decide +kernel
theorem d_Mod_isName_4 : decode prog_12_method_24_code 4 = .ok (.invokestatic 144, 3) := by decide +kernel
theorem d_Mod_isName_7 : decode prog_12_method_24_code 7 = .ok (.ifCond .eq 13, 3) := by decide +kernel
theorem d_Mod_isName_10 : decode prog_12_method_24_code 10 = .ok (.iload_n 1, 1) := by decide +kernel
theorem d_Mod_isName_11 : decode prog_12_method_24_code 11 = .ok (.iload_n 2, 1) := by decide +kernel
theorem d_Mod_isName_12 : decode prog_12_method_24_code 12 = .ok (.iadd, 1) := by decide +kernel
theorem d_Mod_isName_13 : decode prog_12_method_24_code 13 = .ok (.aload_n 0, 1) := by decide +kernel
theorem d_Mod_isName_14 : decode prog_12_method_24_code 14 = .ok (.getfield 158, 3) := by decide +kernel
theorem d_Mod_isName_17 : decode prog_12_method_24_code 17 = .ok (.if_icmp .le 5, 3) := by decide +kernel
theorem d_Mod_isName_20 : decode prog_12_method_24_code 20 = .ok (.iconst 0, 1) := by decide +kernel
theorem d_Mod_isName_21 : decode prog_12_method_24_code 21 = .ok (.ireturn, 1) := by decide +kernel
theorem d_Mod_isName_22 : decode prog_12_method_24_code 22 = .ok (.iconst 1, 1) := by decide +kernel
theorem d_Mod_isName_23 : decode prog_12_method_24_code 23 = .ok (.istore_n 3, 1) := by decide +kernel
theorem d_Mod_isName_24 : decode prog_12_method_24_code 24 = .ok (.iload_n 1, 1) := by decide +kernel
theorem d_Mod_isName_25 : decode prog_12_method_24_code 25 = .ok (.istore 4, 2) := by decide +kernel
theorem d_Mod_isName_27 : decode prog_12_method_24_code 27 = .ok (.iload 4, 2) := by decide +kernel
theorem d_Mod_isName_29 : decode prog_12_method_24_code 29 = .ok (.iload_n 1, 1) := by decide +kernel
theorem d_Mod_isName_30 : decode prog_12_method_24_code 30 = .ok (.iload_n 2, 1) := by decide +kernel
theorem d_Mod_isName_31 : decode prog_12_method_24_code 31 = .ok (.iadd, 1) := by decide +kernel
theorem d_Mod_isName_32 : decode prog_12_method_24_code 32 = .ok (.if_icmp .ge 41, 3) := by decide +kernel
theorem d_Mod_isName_35 : decode prog_12_method_24_code 35 = .ok (.iload_n 3, 1) := by decide +kernel
theorem d_Mod_isName_36 : decode prog_12_method_24_code 36 = .ok (.ifCond .eq 29, 3) := by decide +kernel
theorem d_Mod_isName_39 : decode prog_12_method_24_code 39 = .ok (.aload_n 0, 1) := by decide +kernel
theorem d_Mod_isName_40 : decode prog_12_method_24_code 40 = .ok (.getfield 13, 3) := by decide +kernel
theorem d_Mod_isName_43 : decode prog_12_method_24_code 43 = .ok (.iload 4, 2) := by decide +kernel
theorem d_Mod_isName_45 : decode prog_12_method_24_code 45 = .ok (.baload, 1) := by decide +kernel
theorem d_Mod_isName_46 : decode prog_12_method_24_code 46 = .ok (.ifCond .eq 19, 3) := by decide +kernel
theorem d_Mod_isName_49 : decode prog_12_method_24_code 49 = .ok (.aload_n 0, 1) := by decide +kernel
theorem d_Mod_isName_50 : decode prog_12_method_24_code 50 = .ok (.getfield 13, 3) := by decide +kernel
theorem d_Mod_isName_53 : decode prog_12_method_24_code 53 = .ok (.iload 4, 2) := by decide +kernel
theorem d_Mod_isName_55 : decode prog_12_method_24_code 55 = .ok (.baload, 1) := by decide +kernel
theorem d_Mod_isName_56 : decode prog_12_method_24_code 56 = .ok (.bipush 47, 2) := by decide +kernel
theorem d_Mod_isName_58 : decode prog_12_method_24_code 58 = .ok (.if_icmp .eq 7, 3) := by decide +kernel
theorem d_Mod_isName_61 : decode prog_12_method_24_code 61 = .ok (.iconst 1, 1) := by decide +kernel
theorem d_Mod_isName_62 : decode prog_12_method_24_code 62 = .ok (.goto 4, 3) := by decide +kernel
theorem d_Mod_isName_65 : decode prog_12_method_24_code 65 = .ok (.iconst 0, 1) := by decide +kernel
theorem d_Mod_isName_66 : decode prog_12_method_24_code 66 = .ok (.istore_n 3, 1) := by decide +kernel
theorem d_Mod_isName_67 : decode prog_12_method_24_code 67 = .ok (.iinc 4 1, 3) := by decide +kernel
theorem d_Mod_isName_70 : decode prog_12_method_24_code 70 = .ok (.goto (-43), 3) := by decide +kernel
theorem d_Mod_isName_73 : decode prog_12_method_24_code 73 = .ok (.iload_n 3, 1) := by decide +kernel
theorem d_Mod_isName_74 : decode prog_12_method_24_code 74 = .ok (.ireturn, 1) := by decide +kernel
set_option maxHeartbeats 4000000 in
set_option maxRecDepth 100000 in
theorem v_Mod_isName_66 {p : Program} {l : Launch} {e : Env} {s : State} {m : MethodId} {args : Array Value} {below : List Frame} {meth : Method} {c : Code} {D : va_G} {ad : Nat → Nat} {ca : Nat → ClassId} {A : Nat → Prop} {FU : Nat} {q : Int32} {g : St} (X : FX p s m meth c prog_12_method_24_code 5 (some .boolean) "FlashFilesModel" D (tyM ca) A) {k27 : Int32 → Int32 → Int32 → Int32 → St → Option (Int32)} (hk27 : ∀ (y1 y2 y3 y4 : Int32) (H : Heap) (locs : List Loc) (ls : Array Slot), va_P D cls (wM ad ca g) H → va_D A (wM ad ca g) → va_S A s.heap H locs → lv_has ls 5 [(0, .ref (ad 0)), (1, .int y1), (2, .int y2), (3, .int y3), (4, .int y4)] → k27 y1 y2 y3 y4 g = some q → W p l e (rmN 2) s m args below meth c H locs 0 0 (MQ below (fxQi D (tyM ca) A (wM ad ca g) q) args s 0 0 A) (F0 m 27 ls [])) {y1 : Int32} {y2 : Int32} {y4 : Int32} {z0 : Int32}  {H : Heap} {locs : List Loc} {ls : Array Slot} (hP : va_P D cls (wM ad ca g) H) (hD : va_D A (wM ad ca g)) (hS : va_S A s.heap H locs) (hl : lv_has ls 5 [(0, .ref (ad 0)), (1, .int y1), (2, .int y2), (4, .int y4)]) (h : Mod_isName_b66 FU k27 y1 y2 y4 z0 g = some q) : W p l e (rmN 2) s m args below meth c H locs 0 0 (MQ below (fxQi D (tyM ca) A (wM ad ca g) q) args s 0 0 A) (F0 m 66 ls [.int z0]) := by
  have hx := X.1
  have hb := X.2.1
  unfold Mod_isName_b66 at h
  refine lv_istore_n hx hb d_Mod_isName_66 rfl hl (by decide) rfl (fun ls hl => ?_)
  have hl : lv_has ls 5 [(3, .int z0), (0, .ref (ad 0)), (1, .int y1), (2, .int y2), (4, .int y4)] := hl
  refine lv_iinc (k := 4) (v := (y4 + (1 : Int32))) hx hb d_Mod_isName_67 hl rfl (oi_1 _) (by decide) rfl (fun ls hl => ?_)
  have hl : lv_has ls 5 [(4, .int (y4 + (1 : Int32))), (3, .int z0), (0, .ref (ad 0)), (1, .int y1), (2, .int y2)] := hl
  refine lv_goto (tgt := 27) hx hb d_Mod_isName_70 (by decide) ?_
  exact hk27 _ _ _ _ _ _ _ hP hD hS (lv_sub hl [2, 3, 4, 1, 0] rfl) h
set_option maxHeartbeats 4000000 in
set_option maxRecDepth 100000 in
theorem v_Mod_isName_65 {p : Program} {l : Launch} {e : Env} {s : State} {m : MethodId} {args : Array Value} {below : List Frame} {meth : Method} {c : Code} {D : va_G} {ad : Nat → Nat} {ca : Nat → ClassId} {A : Nat → Prop} {FU : Nat} {q : Int32} {g : St} (X : FX p s m meth c prog_12_method_24_code 5 (some .boolean) "FlashFilesModel" D (tyM ca) A) {k27 : Int32 → Int32 → Int32 → Int32 → St → Option (Int32)} (hk27 : ∀ (y1 y2 y3 y4 : Int32) (H : Heap) (locs : List Loc) (ls : Array Slot), va_P D cls (wM ad ca g) H → va_D A (wM ad ca g) → va_S A s.heap H locs → lv_has ls 5 [(0, .ref (ad 0)), (1, .int y1), (2, .int y2), (3, .int y3), (4, .int y4)] → k27 y1 y2 y3 y4 g = some q → W p l e (rmN 2) s m args below meth c H locs 0 0 (MQ below (fxQi D (tyM ca) A (wM ad ca g) q) args s 0 0 A) (F0 m 27 ls [])) {y1 : Int32} {y2 : Int32} {y4 : Int32}  {H : Heap} {locs : List Loc} {ls : Array Slot} (hP : va_P D cls (wM ad ca g) H) (hD : va_D A (wM ad ca g)) (hS : va_S A s.heap H locs) (hl : lv_has ls 5 [(0, .ref (ad 0)), (1, .int y1), (2, .int y2), (4, .int y4)]) (h : Mod_isName_b65 FU k27 y1 y2 y4 g = some q) : W p l e (rmN 2) s m args below meth c H locs 0 0 (MQ below (fxQi D (tyM ca) A (wM ad ca g) q) args s 0 0 A) (F0 m 65 ls []) := by
  have hx := X.1
  have hb := X.2.1
  unfold Mod_isName_b65 at h
  refine lv_iconst (v := 0) hx hb d_Mod_isName_65 (by decide) ?_
  exact v_Mod_isName_66 X hk27 hP hD hS (lv_sub hl [0, 1, 2, 3] rfl) h
set_option maxHeartbeats 4000000 in
set_option maxRecDepth 100000 in
theorem v_Mod_isName_27 {p : Program} {l : Launch} {e : Env} {s : State} {m : MethodId} {args : Array Value} {below : List Frame} {meth : Method} {c : Code} {D : va_G} {ad : Nat → Nat} {ca : Nat → ClassId} {A : Nat → Prop} {FU : Nat} {q : Int32} {g : St} (X : FX p s m meth c prog_12_method_24_code 5 (some .boolean) "FlashFilesModel" D (tyM ca) A) : ∀ (n : Nat), ∀ (y1 y2 y3 y4 : Int32) (H : Heap) (locs : List Loc) (ls : Array Slot), va_P D cls (wM ad ca g) H → va_D A (wM ad ca g) → va_S A s.heap H locs → lv_has ls 5 [(0, .ref (ad 0)), (1, .int y1), (2, .int y2), (3, .int y3), (4, .int y4)] → Mod_isName_b27 FU n y1 y2 y3 y4 g = some q → W p l e (rmN 2) s m args below meth c H locs 0 0 (MQ below (fxQi D (tyM ca) A (wM ad ca g) q) args s 0 0 A) (F0 m 27 ls []) := by
  have hx := X.1
  have hb := X.2.1
  intro n
  induction n with
  | zero =>
    intro y1 y2 y3 y4 H locs ls hP hD hS hl h
    cases h
  | succ n ih =>
    intro y1 y2 y3 y4 H locs ls hP hD hS hl h
    have h := h
    rw [Mod_isName_b27.eq_2] at h
    refine lv_iload hx hb d_Mod_isName_27 (lv_at hl 4 rfl) ?_
    refine lv_iload_n hx hb d_Mod_isName_29 rfl (lv_at hl 1 rfl) ?_
    refine lv_iload_n hx hb d_Mod_isName_30 rfl (lv_at hl 2 rfl) ?_
    refine lv_iadd hx hb d_Mod_isName_31 ?_
    refine lv_icmp_ge (tgt := 73) hx hb d_Mod_isName_32 (by decide) (fun hc => ?_) (fun hc => ?_)
    · have h := if_t hc h
      refine lv_iload_n hx hb d_Mod_isName_73 rfl (lv_at hl 3 rfl) ?_
      obtain ⟨hz, h⟩ | ⟨hz, h⟩ := if_some h
      rotate_left
      · cases h
      cases h
      exact fx_zret X hP hD hS hz d_Mod_isName_74
    · have h := if_f hc h
      refine lv_iload_n hx hb d_Mod_isName_35 rfl (lv_at hl 3 rfl) ?_
      refine lv_if_eq (tgt := 65) hx hb d_Mod_isName_36 (by decide) (fun hc => ?_) (fun hc => ?_)
      · have h := if_t hc h
        exact v_Mod_isName_65 X ih hP hD hS (lv_sub hl [0, 1, 2, 4] rfl) h
      · have h := if_f hc h
        refine lv_aload_n hx hb d_Mod_isName_39 rfl (lv_at hl 0 rfl) ?_
        refine gM_mod_tape X hP d_Mod_isName_40 ?_
        refine lv_iload hx hb d_Mod_isName_43 (lv_at hl 4 rfl) ?_
        obtain ⟨v1, e1, h⟩ := bd_some h
        refine rM_0 X hP e1 d_Mod_isName_45 ?_
        refine lv_if_eq (tgt := 65) hx hb d_Mod_isName_46 (by decide) (fun hc => ?_) (fun hc => ?_)
        · have h := if_t hc h
          exact v_Mod_isName_65 X ih hP hD hS (lv_sub hl [0, 1, 2, 4] rfl) h
        · have h := if_f hc h
          refine lv_aload_n hx hb d_Mod_isName_49 rfl (lv_at hl 0 rfl) ?_
          refine gM_mod_tape X hP d_Mod_isName_50 ?_
          refine lv_iload hx hb d_Mod_isName_53 (lv_at hl 4 rfl) ?_
          obtain ⟨v2, e1, h⟩ := bd_some h
          refine rM_0 X hP e1 d_Mod_isName_55 ?_
          refine lv_bipush (v := 47) hx hb d_Mod_isName_56 (by decide) ?_
          refine lv_icmp_eq (tgt := 65) hx hb d_Mod_isName_58 (by decide) (fun hc => ?_) (fun hc => ?_)
          · have h := if_t hc h
            exact v_Mod_isName_65 X ih hP hD hS (lv_sub hl [0, 1, 2, 4] rfl) h
          · have h := if_f hc h
            refine lv_iconst (v := 1) hx hb d_Mod_isName_61 (by decide) ?_
            refine lv_goto (tgt := 66) hx hb d_Mod_isName_62 (by decide) ?_
            exact v_Mod_isName_66 X ih hP hD hS (lv_sub hl [0, 1, 2, 4] rfl) h
set_option maxHeartbeats 4000000 in
set_option maxRecDepth 100000 in
theorem m_Mod_isName {l : Launch} {D : va_G} {ad : Nat → Nat} {ca : Nat → ClassId} {FU : Nat} {x1 : Int32} {x2 : Int32} {g : St} {q : Int32} (h : Mod_isName FU x1 x2 g = some q) : CI l ⟨"FlashFilesModel", "isName", "(II)Z"⟩ prog_12_method_24_code 5 2 (some .boolean) D (tyM ca) (wM ad ca g) [.ref (ad 0), .int x1, .int x2] q (wM ad ca g) := by
  intro sz
  refine Met.fx (Qc := fun A => fxQi D (tyM ca) A (wM ad ca g) q) (by decide) (Nat.le_of_ble_eq_true rfl) ?_
  intro p e s m below meth c A ls X hP hD hl
  have hl : lv_has ls 5 [(0, .ref (ad 0)), (1, .int x1), (2, .int x2)] := hl
  have hS : va_S A s.heap s.heap [] := va_S.rf
  have hx := X.1
  have hb := X.2.1
  unfold Mod_isName at h
  refine lv_iload_n hx hb d_Mod_isName_0 rfl (lv_at hl 2 rfl) ?_
  refine lv_iconst (v := 1) hx hb d_Mod_isName_1 (by decide) ?_
  refine lv_bipush (v := 20) hx hb d_Mod_isName_2 (by decide) ?_
  obtain ⟨v3, e1, h⟩ := bd_some h
  refine fx_i X (fx_runS X (m_Mod_in e1 _) (As := [.int x2, .int (1 : Int32), .int (20 : Int32)]) hP hD ks_Mod_144 ⟨Nat.le_of_ble_eq_true rfl, Nat.le_of_ble_eq_true rfl⟩ rfl hl.1 rfl (Nat.le_of_ble_eq_true rfl) d_Mod_isName_4) hD hS (fun H locs hP hD hS => ?_)
  refine lv_if_eq (tgt := 20) hx hb d_Mod_isName_7 (by decide) (fun hc => ?_) (fun hc => ?_)
  · have h := if_t hc h
    refine lv_iconst (v := 0) hx hb d_Mod_isName_20 (by decide) ?_
    cases h
    exact fx_zret X hP hD hS (Or.inl rfl) d_Mod_isName_21
  · have h := if_f hc h
    refine lv_iload_n hx hb d_Mod_isName_10 rfl (lv_at hl 1 rfl) ?_
    refine lv_iload_n hx hb d_Mod_isName_11 rfl (lv_at hl 2 rfl) ?_
    refine lv_iadd hx hb d_Mod_isName_12 ?_
    refine lv_aload_n hx hb d_Mod_isName_13 rfl (lv_at hl 0 rfl) ?_
    refine gM_mod_taped X hP d_Mod_isName_14 ?_
    refine lv_icmp_le (tgt := 22) hx hb d_Mod_isName_17 (by decide) (fun hc => ?_) (fun hc => ?_)
    · have h := if_t hc h
      refine lv_iconst (v := 1) hx hb d_Mod_isName_22 (by decide) ?_
      refine lv_istore_n hx hb d_Mod_isName_23 rfl hl (by decide) rfl (fun ls hl => ?_)
      have hl : lv_has ls 5 [(3, .int (1 : Int32)), (0, .ref (ad 0)), (1, .int x1), (2, .int x2)] := hl
      refine lv_iload_n hx hb d_Mod_isName_24 rfl (lv_at hl 2 rfl) ?_
      refine lv_istore hx hb d_Mod_isName_25 hl (by decide) rfl (fun ls hl => ?_)
      have hl : lv_has ls 5 [(4, .int x1), (3, .int (1 : Int32)), (0, .ref (ad 0)), (1, .int x1), (2, .int x2)] := hl
      exact v_Mod_isName_27 X  _ _ _ _ _ _ _ _ hP hD hS (lv_sub hl [2, 3, 4, 1, 0] rfl) h
    · have h := if_f hc h
      refine lv_iconst (v := 0) hx hb d_Mod_isName_20 (by decide) ?_
      cases h
      exact fx_zret X hP hD hS (Or.inl rfl) d_Mod_isName_21
theorem d_Mod_seek_0 : decode prog_12_method_25_code 0 = .ok (.iconst 0, 1) := by decide +kernel
theorem d_Mod_seek_1 : decode prog_12_method_25_code 1 = .ok (.istore 4, 2) := by decide +kernel
theorem d_Mod_seek_3 : decode prog_12_method_25_code 3 = .ok (.iload 4, 2) := by decide +kernel
theorem d_Mod_seek_5 : decode prog_12_method_25_code 5 = .ok (.aload_n 0, 1) := by decide +kernel
theorem d_Mod_seek_6 : decode prog_12_method_25_code 6 = .ok (.getfield 94, 3) := by decide +kernel
theorem d_Mod_seek_9 : decode prog_12_method_25_code 9 = .ok (.if_icmp .ge 98, 3) := by decide +kernel
theorem d_Mod_seek_12 : decode prog_12_method_25_code 12 = .ok (.aload_n 0, 1) := by decide +kernel
theorem d_Mod_seek_13 : decode prog_12_method_25_code 13 = .ok (.getfield 51, 3) := by decide +kernel
theorem d_Mod_seek_16 : decode prog_12_method_25_code 16 = .ok (.iload 4, 2) := by decide +kernel
theorem d_Mod_seek_18 : decode prog_12_method_25_code 18 = .ok (.iaload, 1) := by decide +kernel
theorem d_Mod_seek_19 : decode prog_12_method_25_code 19 = .ok (.iload_n 1, 1) := by decide +kernel
theorem d_Mod_seek_20 : decode prog_12_method_25_code 20 = .ok (.if_icmp .ne 18, 3) := by decide +kernel
theorem d_Mod_seek_23 : decode prog_12_method_25_code 23 = .ok (.aload_n 0, 1) := by decide +kernel
theorem d_Mod_seek_24 : decode prog_12_method_25_code 24 = .ok (.getfield 57, 3) := by decide +kernel
theorem d_Mod_seek_27 : decode prog_12_method_25_code 27 = .ok (.iload 4, 2) := by decide +kernel
theorem d_Mod_seek_29 : decode prog_12_method_25_code 29 = .ok (.iaload, 1) := by decide +kernel
theorem d_Mod_seek_30 : decode prog_12_method_25_code 30 = .ok (.iload_n 3, 1) := by decide +kernel
theorem d_Mod_seek_31 : decode prog_12_method_25_code 31 = .ok (.if_icmp .ne 7, 3) := by decide +kernel
theorem d_Mod_seek_34 : decode prog_12_method_25_code 34 = .ok (.iconst 1, 1) := by decide +kernel
theorem d_Mod_seek_35 : decode prog_12_method_25_code 35 = .ok (.goto 4, 3) := by decide +kernel
theorem d_Mod_seek_38 : decode prog_12_method_25_code 38 = .ok (.iconst 0, 1) := by decide +kernel
theorem d_Mod_seek_39 : decode prog_12_method_25_code 39 = .ok (.istore 5, 2) := by decide +kernel
theorem d_Mod_seek_41 : decode prog_12_method_25_code 41 = .ok (.iconst 0, 1) := by decide +kernel
theorem d_Mod_seek_42 : decode prog_12_method_25_code 42 = .ok (.istore 6, 2) := by decide +kernel
theorem d_Mod_seek_44 : decode prog_12_method_25_code 44 = .ok (.iload 6, 2) := by decide +kernel
theorem d_Mod_seek_46 : decode prog_12_method_25_code 46 = .ok (.iload_n 3, 1) := by decide +kernel
theorem d_Mod_seek_47 : decode prog_12_method_25_code 47 = .ok (.if_icmp .ge 46, 3) := by decide +kernel
theorem d_Mod_seek_50 : decode prog_12_method_25_code 50 = .ok (.iload 5, 2) := by decide +kernel
theorem d_Mod_seek_52 : decode prog_12_method_25_code 52 = .ok (.ifCond .eq 41, 3) := by decide +kernel
theorem d_Mod_seek_55 : decode prog_12_method_25_code 55 = .ok (.aload_n 0, 1) := by decide +kernel
theorem d_Mod_seek_56 : decode prog_12_method_25_code 56 = .ok (.getfield 61, 3) := by decide +kernel
theorem d_Mod_seek_59 : decode prog_12_method_25_code 59 = .ok (.bipush 20, 2) := by decide +kernel
theorem d_Mod_seek_61 : decode prog_12_method_25_code 61 = .ok (.iload 4, 2) := by decide +kernel
theorem d_Mod_seek_63 : decode prog_12_method_25_code 63 = .ok (.imul, 1) := by decide +kernel
theorem d_Mod_seek_64 : decode prog_12_method_25_code 64 = .ok (.iload 6, 2) := by decide +kernel
theorem d_Mod_seek_66 : decode prog_12_method_25_code 66 = .ok (.iadd, 1) := by decide +kernel
theorem d_Mod_seek_67 : decode prog_12_method_25_code 67 = .ok (.baload, 1) := by decide +kernel
theorem d_Mod_seek_68 : decode prog_12_method_25_code 68 = .ok (.aload_n 0, 1) := by decide +kernel
theorem d_Mod_seek_69 : decode prog_12_method_25_code 69 = .ok (.getfield 13, 3) := by decide +kernel
theorem d_Mod_seek_72 : decode prog_12_method_25_code 72 = .ok (.iload_n 2, 1) := by decide +kernel
theorem d_Mod_seek_73 : decode prog_12_method_25_code 73 = .ok (.iload 6, 2) := by decide +kernel
theorem d_Mod_seek_75 : decode prog_12_method_25_code 75 = .ok (.iadd, 1) := by decide +kernel
theorem d_Mod_seek_76 : decode prog_12_method_25_code 76 = .ok (.baload, 1) := by decide +kernel
theorem d_Mod_seek_77 : decode prog_12_method_25_code 77 = .ok (.if_icmp .ne 7, 3) := by decide +kernel
theorem d_Mod_seek_80 : decode prog_12_method_25_code 80 = .ok (.iconst 1, 1) := by decide +kernel
theorem d_Mod_seek_81 : decode prog_12_method_25_code 81 = .ok (.goto 4, 3) := by decide +kernel
theorem d_Mod_seek_84 : decode prog_12_method_25_code 84 = .ok (.iconst 0, 1) := by decide +kernel
theorem d_Mod_seek_85 : decode prog_12_method_25_code 85 = .ok (.istore 5, 2) := by decide +kernel
theorem d_Mod_seek_87 : decode prog_12_method_25_code 87 = .ok (.iinc 6 1, 3) := by decide +kernel
theorem d_Mod_seek_90 : decode prog_12_method_25_code 90 = .ok (.goto (-46), 3) := by decide +kernel
theorem d_Mod_seek_93 : decode prog_12_method_25_code 93 = .ok (.iload 5, 2) := by decide +kernel
theorem d_Mod_seek_95 : decode prog_12_method_25_code 95 = .ok (.ifCond .eq 6, 3) := by decide +kernel
theorem d_Mod_seek_98 : decode prog_12_method_25_code 98 = .ok (.iload 4, 2) := by decide +kernel
theorem d_Mod_seek_100 : decode prog_12_method_25_code 100 = .ok (.ireturn, 1) := by decide +kernel
theorem d_Mod_seek_101 : decode prog_12_method_25_code 101 = .ok (.iinc 4 1, 3) := by decide +kernel
theorem d_Mod_seek_104 : decode prog_12_method_25_code 104 = .ok (.goto (-101), 3) := by decide +kernel
theorem d_Mod_seek_107 : decode prog_12_method_25_code 107 = .ok (.iconst (-1), 1) := by decide +kernel
theorem d_Mod_seek_108 : decode prog_12_method_25_code 108 = .ok (.ireturn, 1) := by decide +kernel
set_option maxHeartbeats 4000000 in
set_option maxRecDepth 100000 in
theorem v_Mod_seek_93 {p : Program} {l : Launch} {e : Env} {s : State} {m : MethodId} {args : Array Value} {below : List Frame} {meth : Method} {c : Code} {D : va_G} {ad : Nat → Nat} {ca : Nat → ClassId} {A : Nat → Prop} {FU : Nat} {q : Int32} {g : St} (X : FX p s m meth c prog_12_method_25_code 7 (some .int) "FlashFilesModel" D (tyM ca) A) {k3 : Int32 → Int32 → Int32 → Int32 → St → Option (Int32)} (hk3 : ∀ (y1 y2 y3 y4 : Int32) (H : Heap) (locs : List Loc) (ls : Array Slot), va_P D cls (wM ad ca g) H → va_D A (wM ad ca g) → va_S A s.heap H locs → lv_has ls 7 [(0, .ref (ad 0)), (1, .int y1), (2, .int y2), (3, .int y3), (4, .int y4)] → k3 y1 y2 y3 y4 g = some q → W p l e (rmN 1) s m args below meth c H locs 0 0 (MQ below (fxQi D (tyM ca) A (wM ad ca g) q) args s 0 0 A) (F0 m 3 ls [])) {y1 : Int32} {y2 : Int32} {y3 : Int32} {y4 : Int32} {y5 : Int32}  {H : Heap} {locs : List Loc} {ls : Array Slot} (hP : va_P D cls (wM ad ca g) H) (hD : va_D A (wM ad ca g)) (hS : va_S A s.heap H locs) (hl : lv_has ls 7 [(0, .ref (ad 0)), (1, .int y1), (2, .int y2), (3, .int y3), (4, .int y4), (5, .int y5)]) (h : Mod_seek_b93 FU k3 y1 y2 y3 y4 y5 g = some q) : W p l e (rmN 1) s m args below meth c H locs 0 0 (MQ below (fxQi D (tyM ca) A (wM ad ca g) q) args s 0 0 A) (F0 m 93 ls []) := by
  have hx := X.1
  have hb := X.2.1
  unfold Mod_seek_b93 at h
  refine lv_iload hx hb d_Mod_seek_93 (lv_at hl 5 rfl) ?_
  refine lv_if_eq (tgt := 101) hx hb d_Mod_seek_95 (by decide) (fun hc => ?_) (fun hc => ?_)
  · have h := if_t hc h
    refine lv_iinc (k := 4) (v := (y4 + (1 : Int32))) hx hb d_Mod_seek_101 hl rfl (oi_1 _) (by decide) rfl (fun ls hl => ?_)
    have hl : lv_has ls 7 [(4, .int (y4 + (1 : Int32))), (0, .ref (ad 0)), (1, .int y1), (2, .int y2), (3, .int y3), (5, .int y5)] := hl
    refine lv_goto (tgt := 3) hx hb d_Mod_seek_104 (by decide) ?_
    exact hk3 _ _ _ _ _ _ _ hP hD hS (lv_sub hl [1, 2, 3, 4, 0] rfl) h
  · have h := if_f hc h
    refine lv_iload hx hb d_Mod_seek_98 (lv_at hl 4 rfl) ?_
    cases h
    exact fx_iret X hP hD hS d_Mod_seek_100
set_option maxHeartbeats 4000000 in
set_option maxRecDepth 100000 in
theorem v_Mod_seek_85 {p : Program} {l : Launch} {e : Env} {s : State} {m : MethodId} {args : Array Value} {below : List Frame} {meth : Method} {c : Code} {D : va_G} {ad : Nat → Nat} {ca : Nat → ClassId} {A : Nat → Prop} {FU : Nat} {q : Int32} {g : St} (X : FX p s m meth c prog_12_method_25_code 7 (some .int) "FlashFilesModel" D (tyM ca) A) {k44 : Int32 → Int32 → Int32 → Int32 → Int32 → Int32 → St → Option (Int32)} (hk44 : ∀ (y1 y2 y3 y4 y5 y6 : Int32) (H : Heap) (locs : List Loc) (ls : Array Slot), va_P D cls (wM ad ca g) H → va_D A (wM ad ca g) → va_S A s.heap H locs → lv_has ls 7 [(0, .ref (ad 0)), (1, .int y1), (2, .int y2), (3, .int y3), (4, .int y4), (5, .int y5), (6, .int y6)] → k44 y1 y2 y3 y4 y5 y6 g = some q → W p l e (rmN 1) s m args below meth c H locs 0 0 (MQ below (fxQi D (tyM ca) A (wM ad ca g) q) args s 0 0 A) (F0 m 44 ls [])) {y1 : Int32} {y2 : Int32} {y3 : Int32} {y4 : Int32} {y6 : Int32} {z0 : Int32}  {H : Heap} {locs : List Loc} {ls : Array Slot} (hP : va_P D cls (wM ad ca g) H) (hD : va_D A (wM ad ca g)) (hS : va_S A s.heap H locs) (hl : lv_has ls 7 [(0, .ref (ad 0)), (1, .int y1), (2, .int y2), (3, .int y3), (4, .int y4), (6, .int y6)]) (h : Mod_seek_b85 FU k44 y1 y2 y3 y4 y6 z0 g = some q) : W p l e (rmN 1) s m args below meth c H locs 0 0 (MQ below (fxQi D (tyM ca) A (wM ad ca g) q) args s 0 0 A) (F0 m 85 ls [.int z0]) := by
  have hx := X.1
  have hb := X.2.1
  unfold Mod_seek_b85 at h
  refine lv_istore hx hb d_Mod_seek_85 hl (by decide) rfl (fun ls hl => ?_)
  have hl : lv_has ls 7 [(5, .int z0), (0, .ref (ad 0)), (1, .int y1), (2, .int y2), (3, .int y3), (4, .int y4), (6, .int y6)] := hl
  refine lv_iinc (k := 6) (v := (y6 + (1 : Int32))) hx hb d_Mod_seek_87 hl rfl (oi_1 _) (by decide) rfl (fun ls hl => ?_)
  have hl : lv_has ls 7 [(6, .int (y6 + (1 : Int32))), (5, .int z0), (0, .ref (ad 0)), (1, .int y1), (2, .int y2), (3, .int y3), (4, .int y4)] := hl
  refine lv_goto (tgt := 44) hx hb d_Mod_seek_90 (by decide) ?_
  exact hk44 _ _ _ _ _ _ _ _ _ hP hD hS (lv_sub hl [2, 3, 4, 5, 6, 1, 0] rfl) h
set_option maxHeartbeats 4000000 in
set_option maxRecDepth 100000 in
theorem v_Mod_seek_44 {p : Program} {l : Launch} {e : Env} {s : State} {m : MethodId} {args : Array Value} {below : List Frame} {meth : Method} {c : Code} {D : va_G} {ad : Nat → Nat} {ca : Nat → ClassId} {A : Nat → Prop} {FU : Nat} {q : Int32} {g : St} (X : FX p s m meth c prog_12_method_25_code 7 (some .int) "FlashFilesModel" D (tyM ca) A) {k3 : Int32 → Int32 → Int32 → Int32 → St → Option (Int32)} (hk3 : ∀ (y1 y2 y3 y4 : Int32) (H : Heap) (locs : List Loc) (ls : Array Slot), va_P D cls (wM ad ca g) H → va_D A (wM ad ca g) → va_S A s.heap H locs → lv_has ls 7 [(0, .ref (ad 0)), (1, .int y1), (2, .int y2), (3, .int y3), (4, .int y4)] → k3 y1 y2 y3 y4 g = some q → W p l e (rmN 1) s m args below meth c H locs 0 0 (MQ below (fxQi D (tyM ca) A (wM ad ca g) q) args s 0 0 A) (F0 m 3 ls [])) : ∀ (n : Nat), ∀ (y1 y2 y3 y4 y5 y6 : Int32) (H : Heap) (locs : List Loc) (ls : Array Slot), va_P D cls (wM ad ca g) H → va_D A (wM ad ca g) → va_S A s.heap H locs → lv_has ls 7 [(0, .ref (ad 0)), (1, .int y1), (2, .int y2), (3, .int y3), (4, .int y4), (5, .int y5), (6, .int y6)] → Mod_seek_b44 FU k3 n y1 y2 y3 y4 y5 y6 g = some q → W p l e (rmN 1) s m args below meth c H locs 0 0 (MQ below (fxQi D (tyM ca) A (wM ad ca g) q) args s 0 0 A) (F0 m 44 ls []) := by
  have hx := X.1
  have hb := X.2.1
  intro n
  induction n with
  | zero =>
    intro y1 y2 y3 y4 y5 y6 H locs ls hP hD hS hl h
    cases h
  | succ n ih =>
    intro y1 y2 y3 y4 y5 y6 H locs ls hP hD hS hl h
    have h := h
    rw [Mod_seek_b44.eq_2] at h
    refine lv_iload hx hb d_Mod_seek_44 (lv_at hl 6 rfl) ?_
    refine lv_iload_n hx hb d_Mod_seek_46 rfl (lv_at hl 3 rfl) ?_
    refine lv_icmp_ge (tgt := 93) hx hb d_Mod_seek_47 (by decide) (fun hc => ?_) (fun hc => ?_)
    · have h := if_t hc h
      exact v_Mod_seek_93 X hk3 hP hD hS (lv_sub hl [0, 1, 2, 3, 4, 5] rfl) h
    · have h := if_f hc h
      refine lv_iload hx hb d_Mod_seek_50 (lv_at hl 5 rfl) ?_
      refine lv_if_eq (tgt := 93) hx hb d_Mod_seek_52 (by decide) (fun hc => ?_) (fun hc => ?_)
      · have h := if_t hc h
        exact v_Mod_seek_93 X hk3 hP hD hS (lv_sub hl [0, 1, 2, 3, 4, 5] rfl) h
      · have h := if_f hc h
        refine lv_aload_n hx hb d_Mod_seek_55 rfl (lv_at hl 0 rfl) ?_
        refine gM_mod_entryName X hP d_Mod_seek_56 ?_
        refine lv_bipush (v := 20) hx hb d_Mod_seek_59 (by decide) ?_
        refine lv_iload hx hb d_Mod_seek_61 (lv_at hl 4 rfl) ?_
        refine lv_imul hx hb d_Mod_seek_63 ?_
        refine lv_iload hx hb d_Mod_seek_64 (lv_at hl 6 rfl) ?_
        refine lv_iadd hx hb d_Mod_seek_66 ?_
        obtain ⟨v1, e1, h⟩ := bd_some h
        refine rM_14 X hP e1 d_Mod_seek_67 ?_
        refine lv_aload_n hx hb d_Mod_seek_68 rfl (lv_at hl 0 rfl) ?_
        refine gM_mod_tape X hP d_Mod_seek_69 ?_
        refine lv_iload_n hx hb d_Mod_seek_72 rfl (lv_at hl 2 rfl) ?_
        refine lv_iload hx hb d_Mod_seek_73 (lv_at hl 6 rfl) ?_
        refine lv_iadd hx hb d_Mod_seek_75 ?_
        obtain ⟨v2, e1, h⟩ := bd_some h
        refine rM_0 X hP e1 d_Mod_seek_76 ?_
        refine lv_icmp_ne (tgt := 84) hx hb d_Mod_seek_77 (by decide) (fun hc => ?_) (fun hc => ?_)
        · have h := if_f hc h
          refine lv_iconst (v := 0) hx hb d_Mod_seek_84 (by decide) ?_
          exact v_Mod_seek_85 X ih hP hD hS (lv_sub hl [0, 1, 2, 3, 4, 6] rfl) h
        · have h := if_t hc h
          refine lv_iconst (v := 1) hx hb d_Mod_seek_80 (by decide) ?_
          refine lv_goto (tgt := 85) hx hb d_Mod_seek_81 (by decide) ?_
          exact v_Mod_seek_85 X ih hP hD hS (lv_sub hl [0, 1, 2, 3, 4, 6] rfl) h
set_option maxHeartbeats 4000000 in
set_option maxRecDepth 100000 in
theorem v_Mod_seek_39 {p : Program} {l : Launch} {e : Env} {s : State} {m : MethodId} {args : Array Value} {below : List Frame} {meth : Method} {c : Code} {D : va_G} {ad : Nat → Nat} {ca : Nat → ClassId} {A : Nat → Prop} {FU : Nat} {q : Int32} {g : St} (X : FX p s m meth c prog_12_method_25_code 7 (some .int) "FlashFilesModel" D (tyM ca) A) {k3 : Int32 → Int32 → Int32 → Int32 → St → Option (Int32)} (hk3 : ∀ (y1 y2 y3 y4 : Int32) (H : Heap) (locs : List Loc) (ls : Array Slot), va_P D cls (wM ad ca g) H → va_D A (wM ad ca g) → va_S A s.heap H locs → lv_has ls 7 [(0, .ref (ad 0)), (1, .int y1), (2, .int y2), (3, .int y3), (4, .int y4)] → k3 y1 y2 y3 y4 g = some q → W p l e (rmN 1) s m args below meth c H locs 0 0 (MQ below (fxQi D (tyM ca) A (wM ad ca g) q) args s 0 0 A) (F0 m 3 ls [])) {y1 : Int32} {y2 : Int32} {y3 : Int32} {y4 : Int32} {z0 : Int32}  {H : Heap} {locs : List Loc} {ls : Array Slot} (hP : va_P D cls (wM ad ca g) H) (hD : va_D A (wM ad ca g)) (hS : va_S A s.heap H locs) (hl : lv_has ls 7 [(0, .ref (ad 0)), (1, .int y1), (2, .int y2), (3, .int y3), (4, .int y4)]) (h : Mod_seek_b39 FU k3 y1 y2 y3 y4 z0 g = some q) : W p l e (rmN 1) s m args below meth c H locs 0 0 (MQ below (fxQi D (tyM ca) A (wM ad ca g) q) args s 0 0 A) (F0 m 39 ls [.int z0]) := by
  have hx := X.1
  have hb := X.2.1
  unfold Mod_seek_b39 at h
  refine lv_istore hx hb d_Mod_seek_39 hl (by decide) rfl (fun ls hl => ?_)
  have hl : lv_has ls 7 [(5, .int z0), (0, .ref (ad 0)), (1, .int y1), (2, .int y2), (3, .int y3), (4, .int y4)] := hl
  refine lv_iconst (v := 0) hx hb d_Mod_seek_41 (by decide) ?_
  refine lv_istore hx hb d_Mod_seek_42 hl (by decide) rfl (fun ls hl => ?_)
  have hl : lv_has ls 7 [(6, .int (0 : Int32)), (5, .int z0), (0, .ref (ad 0)), (1, .int y1), (2, .int y2), (3, .int y3), (4, .int y4)] := hl
  exact v_Mod_seek_44 X hk3 _ _ _ _ _ _ _ _ _ _ hP hD hS (lv_sub hl [2, 3, 4, 5, 6, 1, 0] rfl) h
set_option maxHeartbeats 4000000 in
set_option maxRecDepth 100000 in
theorem v_Mod_seek_38 {p : Program} {l : Launch} {e : Env} {s : State} {m : MethodId} {args : Array Value} {below : List Frame} {meth : Method} {c : Code} {D : va_G} {ad : Nat → Nat} {ca : Nat → ClassId} {A : Nat → Prop} {FU : Nat} {q : Int32} {g : St} (X : FX p s m meth c prog_12_method_25_code 7 (some .int) "FlashFilesModel" D (tyM ca) A) {k3 : Int32 → Int32 → Int32 → Int32 → St → Option (Int32)} (hk3 : ∀ (y1 y2 y3 y4 : Int32) (H : Heap) (locs : List Loc) (ls : Array Slot), va_P D cls (wM ad ca g) H → va_D A (wM ad ca g) → va_S A s.heap H locs → lv_has ls 7 [(0, .ref (ad 0)), (1, .int y1), (2, .int y2), (3, .int y3), (4, .int y4)] → k3 y1 y2 y3 y4 g = some q → W p l e (rmN 1) s m args below meth c H locs 0 0 (MQ below (fxQi D (tyM ca) A (wM ad ca g) q) args s 0 0 A) (F0 m 3 ls [])) {y1 : Int32} {y2 : Int32} {y3 : Int32} {y4 : Int32}  {H : Heap} {locs : List Loc} {ls : Array Slot} (hP : va_P D cls (wM ad ca g) H) (hD : va_D A (wM ad ca g)) (hS : va_S A s.heap H locs) (hl : lv_has ls 7 [(0, .ref (ad 0)), (1, .int y1), (2, .int y2), (3, .int y3), (4, .int y4)]) (h : Mod_seek_b38 FU k3 y1 y2 y3 y4 g = some q) : W p l e (rmN 1) s m args below meth c H locs 0 0 (MQ below (fxQi D (tyM ca) A (wM ad ca g) q) args s 0 0 A) (F0 m 38 ls []) := by
  have hx := X.1
  have hb := X.2.1
  unfold Mod_seek_b38 at h
  refine lv_iconst (v := 0) hx hb d_Mod_seek_38 (by decide) ?_
  exact v_Mod_seek_39 X hk3 hP hD hS (lv_sub hl [0, 1, 2, 3, 4] rfl) h
set_option maxHeartbeats 4000000 in
set_option maxRecDepth 100000 in
theorem v_Mod_seek_3 {p : Program} {l : Launch} {e : Env} {s : State} {m : MethodId} {args : Array Value} {below : List Frame} {meth : Method} {c : Code} {D : va_G} {ad : Nat → Nat} {ca : Nat → ClassId} {A : Nat → Prop} {FU : Nat} {q : Int32} {g : St} (X : FX p s m meth c prog_12_method_25_code 7 (some .int) "FlashFilesModel" D (tyM ca) A) : ∀ (n : Nat), ∀ (y1 y2 y3 y4 : Int32) (H : Heap) (locs : List Loc) (ls : Array Slot), va_P D cls (wM ad ca g) H → va_D A (wM ad ca g) → va_S A s.heap H locs → lv_has ls 7 [(0, .ref (ad 0)), (1, .int y1), (2, .int y2), (3, .int y3), (4, .int y4)] → Mod_seek_b3 FU n y1 y2 y3 y4 g = some q → W p l e (rmN 1) s m args below meth c H locs 0 0 (MQ below (fxQi D (tyM ca) A (wM ad ca g) q) args s 0 0 A) (F0 m 3 ls []) := by
  have hx := X.1
  have hb := X.2.1
  intro n
  induction n with
  | zero =>
    intro y1 y2 y3 y4 H locs ls hP hD hS hl h
    cases h
  | succ n ih =>
    intro y1 y2 y3 y4 H locs ls hP hD hS hl h
    have h := h
    rw [Mod_seek_b3.eq_2] at h
    refine lv_iload hx hb d_Mod_seek_3 (lv_at hl 4 rfl) ?_
    refine lv_aload_n hx hb d_Mod_seek_5 rfl (lv_at hl 0 rfl) ?_
    refine gM_mod_entries X hP d_Mod_seek_6 ?_
    refine lv_icmp_ge (tgt := 107) hx hb d_Mod_seek_9 (by decide) (fun hc => ?_) (fun hc => ?_)
    · have h := if_t hc h
      refine lv_iconst (v := -1) hx hb d_Mod_seek_107 (by decide) ?_
      cases h
      exact fx_iret X hP hD hS d_Mod_seek_108
    · have h := if_f hc h
      refine lv_aload_n hx hb d_Mod_seek_12 rfl (lv_at hl 0 rfl) ?_
      refine gM_mod_entryDirectory X hP d_Mod_seek_13 ?_
      refine lv_iload hx hb d_Mod_seek_16 (lv_at hl 4 rfl) ?_
      obtain ⟨v3, e1, h⟩ := bd_some h
      refine rM_11 X hP e1 d_Mod_seek_18 ?_
      refine lv_iload_n hx hb d_Mod_seek_19 rfl (lv_at hl 1 rfl) ?_
      refine lv_icmp_ne (tgt := 38) hx hb d_Mod_seek_20 (by decide) (fun hc => ?_) (fun hc => ?_)
      · have h := if_f hc h
        exact v_Mod_seek_38 X ih hP hD hS (lv_sub hl [0, 1, 2, 3, 4] rfl) h
      · have h := if_t hc h
        refine lv_aload_n hx hb d_Mod_seek_23 rfl (lv_at hl 0 rfl) ?_
        refine gM_mod_entryLength X hP d_Mod_seek_24 ?_
        refine lv_iload hx hb d_Mod_seek_27 (lv_at hl 4 rfl) ?_
        obtain ⟨v4, e1, h⟩ := bd_some h
        refine rM_13 X hP e1 d_Mod_seek_29 ?_
        refine lv_iload_n hx hb d_Mod_seek_30 rfl (lv_at hl 3 rfl) ?_
        refine lv_icmp_ne (tgt := 38) hx hb d_Mod_seek_31 (by decide) (fun hc => ?_) (fun hc => ?_)
        · have h := if_f hc h
          exact v_Mod_seek_38 X ih hP hD hS (lv_sub hl [0, 1, 2, 3, 4] rfl) h
        · have h := if_t hc h
          refine lv_iconst (v := 1) hx hb d_Mod_seek_34 (by decide) ?_
          refine lv_goto (tgt := 39) hx hb d_Mod_seek_35 (by decide) ?_
          exact v_Mod_seek_39 X ih hP hD hS (lv_sub hl [0, 1, 2, 3, 4] rfl) h
set_option maxHeartbeats 4000000 in
set_option maxRecDepth 100000 in
theorem m_Mod_seek {l : Launch} {D : va_G} {ad : Nat → Nat} {ca : Nat → ClassId} {FU : Nat} {x1 : Int32} {x2 : Int32} {x3 : Int32} {g : St} {q : Int32} (h : Mod_seek FU x1 x2 x3 g = some q) : CI l ⟨"FlashFilesModel", "seek", "(III)I"⟩ prog_12_method_25_code 7 1 (some .int) D (tyM ca) (wM ad ca g) [.ref (ad 0), .int x1, .int x2, .int x3] q (wM ad ca g) := by
  intro sz
  refine Met.fx (Qc := fun A => fxQi D (tyM ca) A (wM ad ca g) q) (by decide) (Nat.le_of_ble_eq_true rfl) ?_
  intro p e s m below meth c A ls X hP hD hl
  have hl : lv_has ls 7 [(0, .ref (ad 0)), (1, .int x1), (2, .int x2), (3, .int x3)] := hl
  have hS : va_S A s.heap s.heap [] := va_S.rf
  have hx := X.1
  have hb := X.2.1
  unfold Mod_seek at h
  refine lv_iconst (v := 0) hx hb d_Mod_seek_0 (by decide) ?_
  refine lv_istore hx hb d_Mod_seek_1 hl (by decide) rfl (fun ls hl => ?_)
  have hl : lv_has ls 7 [(4, .int (0 : Int32)), (0, .ref (ad 0)), (1, .int x1), (2, .int x2), (3, .int x3)] := hl
  exact v_Mod_seek_3 X  _ _ _ _ _ _ _ _ hP hD hS (lv_sub hl [1, 2, 3, 4, 0] rfl) h
theorem d_Mod_nameEntry_0 : decode prog_12_method_26_code 0 = .ok (.aload_n 0, 1) := by decide +kernel
theorem d_Mod_nameEntry_1 : decode prog_12_method_26_code 1 = .ok (.getfield 51, 3) := by decide +kernel
theorem d_Mod_nameEntry_4 : decode prog_12_method_26_code 4 = .ok (.iload_n 1, 1) := by decide +kernel
theorem d_Mod_nameEntry_5 : decode prog_12_method_26_code 5 = .ok (.iload_n 2, 1) := by decide +kernel
theorem d_Mod_nameEntry_6 : decode prog_12_method_26_code 6 = .ok (.iastore, 1) := by decide +kernel
theorem d_Mod_nameEntry_7 : decode prog_12_method_26_code 7 = .ok (.aload_n 0, 1) := by decide +kernel
theorem d_Mod_nameEntry_8 : decode prog_12_method_26_code 8 = .ok (.getfield 57, 3) := by decide +kernel
theorem d_Mod_nameEntry_11 : decode prog_12_method_26_code 11 = .ok (.iload_n 1, 1) := by decide +kernel
theorem d_Mod_nameEntry_12 : decode prog_12_method_26_code 12 = .ok (.iload 4, 2) := by decide +kernel
theorem d_Mod_nameEntry_14 : decode prog_12_method_26_code 14 = .ok (.iastore, 1) := by decide +kernel
theorem d_Mod_nameEntry_15 : decode prog_12_method_26_code 15 = .ok (.iconst 0, 1) := by decide +kernel
theorem d_Mod_nameEntry_16 : decode prog_12_method_26_code 16 = .ok (.istore 5, 2) := by decide +kernel
theorem d_Mod_nameEntry_18 : decode prog_12_method_26_code 18 = .ok (.iload 5, 2) := by decide +kernel
theorem d_Mod_nameEntry_20 : decode prog_12_method_26_code 20 = .ok (.iload 4, 2) := by decide +kernel
theorem d_Mod_nameEntry_22 : decode prog_12_method_26_code 22 = .ok (.if_icmp .ge 30, 3) := by decide +kernel
theorem d_Mod_nameEntry_25 : decode prog_12_method_26_code 25 = .ok (.aload_n 0, 1) := by decide +kernel
theorem d_Mod_nameEntry_26 : decode prog_12_method_26_code 26 = .ok (.getfield 61, 3) := by decide +kernel
theorem d_Mod_nameEntry_29 : decode prog_12_method_26_code 29 = .ok (.bipush 20, 2) := by decide +kernel
theorem d_Mod_nameEntry_31 : decode prog_12_method_26_code 31 = .ok (.iload_n 1, 1) := by decide +kernel
theorem d_Mod_nameEntry_32 : decode prog_12_method_26_code 32 = .ok (.imul, 1) := by decide +kernel
theorem d_Mod_nameEntry_33 : decode prog_12_method_26_code 33 = .ok (.iload 5, 2) := by decide +kernel
theorem d_Mod_nameEntry_35 : decode prog_12_method_26_code 35 = .ok (.iadd, 1) := by decide +kernel
theorem d_Mod_nameEntry_36 : decode prog_12_method_26_code 36 = .ok (.aload_n 0, 1) := by decide +kernel
theorem d_Mod_nameEntry_37 : decode prog_12_method_26_code 37 = .ok (.getfield 13, 3) := by decide +kernel
theorem d_Mod_nameEntry_40 : decode prog_12_method_26_code 40 = .ok (.iload_n 3, 1) := by decide +kernel
theorem d_Mod_nameEntry_41 : decode prog_12_method_26_code 41 = .ok (.iload 5, 2) := by decide +kernel
theorem d_Mod_nameEntry_43 : decode prog_12_method_26_code 43 = .ok (.iadd, 1) := by decide +kernel
theorem d_Mod_nameEntry_44 : decode prog_12_method_26_code 44 = .ok (.baload, 1) := by decide +kernel
theorem d_Mod_nameEntry_45 : decode prog_12_method_26_code 45 = .ok (.bastore, 1) := by decide +kernel
theorem d_Mod_nameEntry_46 : decode prog_12_method_26_code 46 = .ok (.iinc 5 1, 3) := by decide +kernel
theorem d_Mod_nameEntry_49 : decode prog_12_method_26_code 49 = .ok (.goto (-31), 3) := by decide +kernel
theorem d_Mod_nameEntry_52 : decode prog_12_method_26_code 52 = .ok (.return_, 1) := by decide +kernel
set_option maxHeartbeats 4000000 in
set_option maxRecDepth 100000 in
theorem v_Mod_nameEntry_18 {p : Program} {l : Launch} {e : Env} {s : State} {m : MethodId} {args : Array Value} {below : List Frame} {meth : Method} {c : Code} {D : va_G} {ad : Nat → Nat} {ca : Nat → ClassId} {A : Nat → Prop} {FU : Nat} {q : St} (X : FX p s m meth c prog_12_method_26_code 6 none "FlashFilesModel" D (tyM ca) A) : ∀ (n : Nat), ∀ (y1 y3 y4 y5 : Int32) (g : St) (H : Heap) (locs : List Loc) (ls : Array Slot), va_P D cls (wM ad ca g) H → va_D A (wM ad ca g) → va_S A s.heap H locs → lv_has ls 6 [(0, .ref (ad 0)), (1, .int y1), (3, .int y3), (4, .int y4), (5, .int y5)] → Mod_nameEntry_b18 FU n y1 y3 y4 y5 g = some q → W p l e (rmN 1) s m args below meth c H locs 0 0 (MQ below (fxQv D (tyM ca) A (wM ad ca q)) args s 0 0 A) (F0 m 18 ls []) := by
  have hx := X.1
  have hb := X.2.1
  intro n
  induction n with
  | zero =>
    intro y1 y3 y4 y5 g H locs ls hP hD hS hl h
    cases h
  | succ n ih =>
    intro y1 y3 y4 y5 g H locs ls hP hD hS hl h
    have h := h
    rw [Mod_nameEntry_b18.eq_2] at h
    refine lv_iload hx hb d_Mod_nameEntry_18 (lv_at hl 4 rfl) ?_
    refine lv_iload hx hb d_Mod_nameEntry_20 (lv_at hl 3 rfl) ?_
    refine lv_icmp_ge (tgt := 52) hx hb d_Mod_nameEntry_22 (by decide) (fun hc => ?_) (fun hc => ?_)
    · have h := if_t hc h
      cases h
      exact fx_vret X hP hD hS d_Mod_nameEntry_52
    · have h := if_f hc h
      refine lv_aload_n hx hb d_Mod_nameEntry_25 rfl (lv_at hl 0 rfl) ?_
      refine gM_mod_entryName X hP d_Mod_nameEntry_26 ?_
      refine lv_bipush (v := 20) hx hb d_Mod_nameEntry_29 (by decide) ?_
      refine lv_iload_n hx hb d_Mod_nameEntry_31 rfl (lv_at hl 1 rfl) ?_
      refine lv_imul hx hb d_Mod_nameEntry_32 ?_
      refine lv_iload hx hb d_Mod_nameEntry_33 (lv_at hl 4 rfl) ?_
      refine lv_iadd hx hb d_Mod_nameEntry_35 ?_
      refine lv_aload_n hx hb d_Mod_nameEntry_36 rfl (lv_at hl 0 rfl) ?_
      refine gM_mod_tape X hP d_Mod_nameEntry_37 ?_
      refine lv_iload_n hx hb d_Mod_nameEntry_40 rfl (lv_at hl 2 rfl) ?_
      refine lv_iload hx hb d_Mod_nameEntry_41 (lv_at hl 4 rfl) ?_
      refine lv_iadd hx hb d_Mod_nameEntry_43 ?_
      obtain ⟨v1, e1, h⟩ := bd_some h
      refine rM_0 X hP e1 d_Mod_nameEntry_44 ?_
      obtain ⟨g2, e1, h⟩ := bd_some h
      refine sM_14 X hP hD hS e1 d_Mod_nameEntry_45 (fun H locs hP hD hS => ?_)
      refine lv_iinc (k := 4) (v := (y5 + (1 : Int32))) hx hb d_Mod_nameEntry_46 hl rfl (oi_1 _) (by decide) rfl (fun ls hl => ?_)
      have hl : lv_has ls 6 [(5, .int (y5 + (1 : Int32))), (0, .ref (ad 0)), (1, .int y1), (3, .int y3), (4, .int y4)] := hl
      refine lv_goto (tgt := 18) hx hb d_Mod_nameEntry_49 (by decide) ?_
      exact ih _ _ _ _ _ _ _ _ hP hD hS (lv_sub hl [1, 2, 3, 4, 0] rfl) h
set_option maxHeartbeats 4000000 in
set_option maxRecDepth 100000 in
theorem m_Mod_nameEntry {l : Launch} {D : va_G} {ad : Nat → Nat} {ca : Nat → ClassId} {FU : Nat} {x1 : Int32} {x2 : Int32} {x3 : Int32} {x4 : Int32} {g : St} {q : St} (h : Mod_nameEntry FU x1 x2 x3 x4 g = some q) : CV l ⟨"FlashFilesModel", "nameEntry", "(IIII)V"⟩ prog_12_method_26_code 6 1 D (tyM ca) (wM ad ca g) [.ref (ad 0), .int x1, .int x2, .int x3, .int x4] (wM ad ca q) := by
  intro sz
  refine Met.fx (Qc := fun A => fxQv D (tyM ca) A (wM ad ca q)) (by decide) (Nat.le_of_ble_eq_true rfl) ?_
  intro p e s m below meth c A ls X hP hD hl
  have hl : lv_has ls 6 [(0, .ref (ad 0)), (1, .int x1), (2, .int x2), (3, .int x3), (4, .int x4)] := hl
  have hS : va_S A s.heap s.heap [] := va_S.rf
  have hx := X.1
  have hb := X.2.1
  unfold Mod_nameEntry at h
  refine lv_aload_n hx hb d_Mod_nameEntry_0 rfl (lv_at hl 0 rfl) ?_
  refine gM_mod_entryDirectory X hP d_Mod_nameEntry_1 ?_
  refine lv_iload_n hx hb d_Mod_nameEntry_4 rfl (lv_at hl 1 rfl) ?_
  refine lv_iload_n hx hb d_Mod_nameEntry_5 rfl (lv_at hl 2 rfl) ?_
  obtain ⟨g3, e1, h⟩ := bd_some h
  refine sM_11 X hP hD hS e1 d_Mod_nameEntry_6 (fun H locs hP hD hS => ?_)
  refine lv_aload_n hx hb d_Mod_nameEntry_7 rfl (lv_at hl 0 rfl) ?_
  refine gM_mod_entryLength X hP d_Mod_nameEntry_8 ?_
  refine lv_iload_n hx hb d_Mod_nameEntry_11 rfl (lv_at hl 1 rfl) ?_
  refine lv_iload hx hb d_Mod_nameEntry_12 (lv_at hl 4 rfl) ?_
  obtain ⟨g4, e1, h⟩ := bd_some h
  refine sM_13 X hP hD hS e1 d_Mod_nameEntry_14 (fun H locs hP hD hS => ?_)
  refine lv_iconst (v := 0) hx hb d_Mod_nameEntry_15 (by decide) ?_
  refine lv_istore hx hb d_Mod_nameEntry_16 hl (by decide) rfl (fun ls hl => ?_)
  have hl : lv_has ls 6 [(5, .int (0 : Int32)), (0, .ref (ad 0)), (1, .int x1), (2, .int x2), (3, .int x3), (4, .int x4)] := hl
  exact v_Mod_nameEntry_18 X  _ _ _ _ _ _ _ _ _ hP hD hS (lv_sub hl [1, 2, 4, 5, 0] rfl) h
theorem d_Mod_addEntry_0 : decode prog_12_method_27_code 0 = .ok (.aload_n 0, 1) := by decide +kernel
theorem d_Mod_addEntry_1 : decode prog_12_method_27_code 1 = .ok (.aload_n 0, 1) := by decide +kernel
theorem d_Mod_addEntry_2 : decode prog_12_method_27_code 2 = .ok (.getfield 94, 3) := by decide +kernel
theorem d_Mod_addEntry_5 : decode prog_12_method_27_code 5 = .ok (.iload_n 1, 1) := by decide +kernel
theorem d_Mod_addEntry_6 : decode prog_12_method_27_code 6 = .ok (.iconst 0, 1) := by decide +kernel
theorem d_Mod_addEntry_7 : decode prog_12_method_27_code 7 = .ok (.iload_n 2, 1) := by decide +kernel
theorem d_Mod_addEntry_8 : decode prog_12_method_27_code 8 = .ok (.invokevirtual 165, 3) := by decide +kernel
theorem d_Mod_addEntry_11 : decode prog_12_method_27_code 11 = .ok (.aload_n 0, 1) := by decide +kernel
theorem d_Mod_addEntry_12 : decode prog_12_method_27_code 12 = .ok (.getfield 54, 3) := by decide +kernel
theorem d_Mod_addEntry_15 : decode prog_12_method_27_code 15 = .ok (.aload_n 0, 1) := by decide +kernel
theorem d_Mod_addEntry_16 : decode prog_12_method_27_code 16 = .ok (.getfield 94, 3) := by decide +kernel
theorem d_Mod_addEntry_19 : decode prog_12_method_27_code 19 = .ok (.iload_n 3, 1) := by decide +kernel
theorem d_Mod_addEntry_20 : decode prog_12_method_27_code 20 = .ok (.iastore, 1) := by decide +kernel
theorem d_Mod_addEntry_21 : decode prog_12_method_27_code 21 = .ok (.aload_n 0, 1) := by decide +kernel
theorem d_Mod_addEntry_22 : decode prog_12_method_27_code 22 = .ok (.dup, 1) := by decide +kernel
theorem d_Mod_addEntry_23 : decode prog_12_method_27_code 23 = .ok (.getfield 94, 3) := by decide +kernel
theorem d_Mod_addEntry_26 : decode prog_12_method_27_code 26 = .ok (.iconst 1, 1) := by decide +kernel
theorem d_Mod_addEntry_27 : decode prog_12_method_27_code 27 = .ok (.iadd, 1) := by decide +kernel
theorem d_Mod_addEntry_28 : decode prog_12_method_27_code 28 = .ok (.putfield 94, 3) := by decide +kernel
theorem d_Mod_addEntry_31 : decode prog_12_method_27_code 31 = .ok (.return_, 1) := by decide +kernel
set_option maxHeartbeats 4000000 in
set_option maxRecDepth 100000 in
theorem m_Mod_addEntry {l : Launch} {D : va_G} {ad : Nat → Nat} {ca : Nat → ClassId} {FU : Nat} {x1 : Int32} {x2 : Int32} {x3 : Int32} {g : St} {q : St} (h : Mod_addEntry FU x1 x2 x3 g = some q) : CV l ⟨"FlashFilesModel", "addEntry", "(III)V"⟩ prog_12_method_27_code 4 2 D (tyM ca) (wM ad ca g) [.ref (ad 0), .int x1, .int x2, .int x3] (wM ad ca q) := by
  intro sz
  refine Met.fx (Qc := fun A => fxQv D (tyM ca) A (wM ad ca q)) (by decide) (Nat.le_of_ble_eq_true rfl) ?_
  intro p e s m below meth c A ls X hP hD hl
  have hl : lv_has ls 4 [(0, .ref (ad 0)), (1, .int x1), (2, .int x2), (3, .int x3)] := hl
  have hS : va_S A s.heap s.heap [] := va_S.rf
  have hx := X.1
  have hb := X.2.1
  unfold Mod_addEntry at h
  refine lv_aload_n hx hb d_Mod_addEntry_0 rfl (lv_at hl 0 rfl) ?_
  refine lv_aload_n hx hb d_Mod_addEntry_1 rfl (lv_at hl 0 rfl) ?_
  refine gM_mod_entries X hP d_Mod_addEntry_2 ?_
  refine lv_iload_n hx hb d_Mod_addEntry_5 rfl (lv_at hl 1 rfl) ?_
  refine lv_iconst (v := 0) hx hb d_Mod_addEntry_6 (by decide) ?_
  refine lv_iload_n hx hb d_Mod_addEntry_7 rfl (lv_at hl 2 rfl) ?_
  obtain ⟨p1, e1, h⟩ := bd_some h
  refine fx_v X (fx_runV (As := [.int (g.1 12), .int x1, .int (0 : Int32), .int x2]) X (m_Mod_nameEntry e1 _) hP hD kv_Mod_165 ⟨Nat.le_of_ble_eq_true rfl, Nat.le_of_ble_eq_true rfl⟩ 0 rfl rfl rfl hl.1 rfl (Nat.le_of_ble_eq_true rfl) d_Mod_addEntry_8) hD hS (fun H locs hP hD hS => ?_)
  refine lv_aload_n hx hb d_Mod_addEntry_11 rfl (lv_at hl 0 rfl) ?_
  refine gM_mod_entryId X hP d_Mod_addEntry_12 ?_
  refine lv_aload_n hx hb d_Mod_addEntry_15 rfl (lv_at hl 0 rfl) ?_
  refine gM_mod_entries X hP d_Mod_addEntry_16 ?_
  refine lv_iload_n hx hb d_Mod_addEntry_19 rfl (lv_at hl 3 rfl) ?_
  obtain ⟨g2, e1, h⟩ := bd_some h
  refine sM_12 X hP hD hS e1 d_Mod_addEntry_20 (fun H locs hP hD hS => ?_)
  refine lv_aload_n hx hb d_Mod_addEntry_21 rfl (lv_at hl 0 rfl) ?_
  refine lv_dup hx hb d_Mod_addEntry_22 rfl ?_
  refine gM_mod_entries X hP d_Mod_addEntry_23 ?_
  refine lv_iconst (v := 1) hx hb d_Mod_addEntry_26 (by decide) ?_
  refine lv_iadd hx hb d_Mod_addEntry_27 ?_
  obtain ⟨g3, e1, h⟩ := nx_some h
  refine uM_mod_entries X hP hD hS e1 d_Mod_addEntry_28 (fun H locs hP hD hS => ?_)
  cases h
  exact fx_vret X hP hD hS d_Mod_addEntry_31
theorem d_Mod_removeEntry_0 : decode prog_12_method_28_code 0 = .ok (.aload_n 0, 1) := by decide +kernel
theorem d_Mod_removeEntry_1 : decode prog_12_method_28_code 1 = .ok (.dup, 1) := by decide +kernel
theorem d_Mod_removeEntry_2 : decode prog_12_method_28_code 2 = .ok (.getfield 94, 3) := by decide +kernel
theorem d_Mod_removeEntry_5 : decode prog_12_method_28_code 5 = .ok (.iconst 1, 1) := by decide +kernel
theorem d_Mod_removeEntry_6 : decode prog_12_method_28_code 6 = .ok (.isub, 1) := by decide +kernel
theorem d_Mod_removeEntry_7 : decode prog_12_method_28_code 7 = .ok (.putfield 94, 3) := by decide +kernel
theorem d_Mod_removeEntry_10 : decode prog_12_method_28_code 10 = .ok (.aload_n 0, 1) := by decide +kernel
theorem d_Mod_removeEntry_11 : decode prog_12_method_28_code 11 = .ok (.getfield 51, 3) := by decide +kernel
theorem d_Mod_removeEntry_14 : decode prog_12_method_28_code 14 = .ok (.iload_n 1, 1) := by decide +kernel
theorem d_Mod_removeEntry_15 : decode prog_12_method_28_code 15 = .ok (.aload_n 0, 1) := by decide +kernel
theorem d_Mod_removeEntry_16 : decode prog_12_method_28_code 16 = .ok (.getfield 51, 3) := by decide +kernel
theorem d_Mod_removeEntry_19 : decode prog_12_method_28_code 19 = .ok (.aload_n 0, 1) := by decide +kernel
theorem d_Mod_removeEntry_20 : decode prog_12_method_28_code 20 = .ok (.getfield 94, 3) := by decide +kernel
theorem d_Mod_removeEntry_23 : decode prog_12_method_28_code 23 = .ok (.iaload, 1) := by decide +kernel
theorem d_Mod_removeEntry_24 : decode prog_12_method_28_code 24 = .ok (.iastore, 1) := by decide +kernel
theorem d_Mod_removeEntry_25 : decode prog_12_method_28_code 25 = .ok (.aload_n 0, 1) := by decide +kernel
theorem d_Mod_removeEntry_26 : decode prog_12_method_28_code 26 = .ok (.getfield 54, 3) := by decide +kernel
theorem d_Mod_removeEntry_29 : decode prog_12_method_28_code 29 = .ok (.iload_n 1, 1) := by decide +kernel
theorem d_Mod_removeEntry_30 : decode prog_12_method_28_code 30 = .ok (.aload_n 0, 1) := by decide +kernel
theorem d_Mod_removeEntry_31 : decode prog_12_method_28_code 31 = .ok (.getfield 54, 3) := by decide +kernel
theorem d_Mod_removeEntry_34 : decode prog_12_method_28_code 34 = .ok (.aload_n 0, 1) := by decide +kernel
theorem d_Mod_removeEntry_35 : decode prog_12_method_28_code 35 = .ok (.getfield 94, 3) := by decide +kernel
theorem d_Mod_removeEntry_38 : decode prog_12_method_28_code 38 = .ok (.iaload, 1) := by decide +kernel
theorem d_Mod_removeEntry_39 : decode prog_12_method_28_code 39 = .ok (.iastore, 1) := by decide +kernel
theorem d_Mod_removeEntry_40 : decode prog_12_method_28_code 40 = .ok (.aload_n 0, 1) := by decide +kernel
theorem d_Mod_removeEntry_41 : decode prog_12_method_28_code 41 = .ok (.getfield 57, 3) := by decide +kernel
theorem d_Mod_removeEntry_44 : decode prog_12_method_28_code 44 = .ok (.iload_n 1, 1) := by decide +kernel
theorem d_Mod_removeEntry_45 : decode prog_12_method_28_code 45 = .ok (.aload_n 0, 1) := by decide +kernel
theorem d_Mod_removeEntry_46 : decode prog_12_method_28_code 46 = .ok (.getfield 57, 3) := by decide +kernel
theorem d_Mod_removeEntry_49 : decode prog_12_method_28_code 49 = .ok (.aload_n 0, 1) := by decide +kernel
theorem d_Mod_removeEntry_50 : decode prog_12_method_28_code 50 = .ok (.getfield 94, 3) := by decide +kernel
theorem d_Mod_removeEntry_53 : decode prog_12_method_28_code 53 = .ok (.iaload, 1) := by decide +kernel
theorem d_Mod_removeEntry_54 : decode prog_12_method_28_code 54 = .ok (.iastore, 1) := by decide +kernel
theorem d_Mod_removeEntry_55 : decode prog_12_method_28_code 55 = .ok (.iconst 0, 1) := by decide +kernel
theorem d_Mod_removeEntry_56 : decode prog_12_method_28_code 56 = .ok (.istore_n 2, 1) := by decide +kernel
theorem d_Mod_removeEntry_57 : decode prog_12_method_28_code 57 = .ok (.iload_n 2, 1) := by decide +kernel
theorem d_Mod_removeEntry_58 : decode prog_12_method_28_code 58 = .ok (.bipush 20, 2) := by decide +kernel
theorem d_Mod_removeEntry_60 : decode prog_12_method_28_code 60 = .ok (.if_icmp .ge 34, 3) := by decide +kernel
theorem d_Mod_removeEntry_63 : decode prog_12_method_28_code 63 = .ok (.aload_n 0, 1) := by decide +kernel
theorem d_Mod_removeEntry_64 : decode prog_12_method_28_code 64 = .ok (.getfield 61, 3) := by decide +kernel
theorem d_Mod_removeEntry_67 : decode prog_12_method_28_code 67 = .ok (.bipush 20, 2) := by decide +kernel
theorem d_Mod_removeEntry_69 : decode prog_12_method_28_code 69 = .ok (.iload_n 1, 1) := by decide +kernel
theorem d_Mod_removeEntry_70 : decode prog_12_method_28_code 70 = .ok (.imul, 1) := by decide +kernel
theorem d_Mod_removeEntry_71 : decode prog_12_method_28_code 71 = .ok (.iload_n 2, 1) := by decide +kernel
theorem d_Mod_removeEntry_72 : decode prog_12_method_28_code 72 = .ok (.iadd, 1) := by decide +kernel
theorem d_Mod_removeEntry_73 : decode prog_12_method_28_code 73 = .ok (.aload_n 0, 1) := by decide +kernel
theorem d_Mod_removeEntry_74 : decode prog_12_method_28_code 74 = .ok (.getfield 61, 3) := by decide +kernel
theorem d_Mod_removeEntry_77 : decode prog_12_method_28_code 77 = .ok (.bipush 20, 2) := by decide +kernel
theorem d_Mod_removeEntry_79 : decode prog_12_method_28_code 79 = .ok (.aload_n 0, 1) := by decide +kernel
theorem d_Mod_removeEntry_80 : decode prog_12_method_28_code 80 = .ok (.getfield 94, 3) := by decide +kernel
theorem d_Mod_removeEntry_83 : decode prog_12_method_28_code 83 = .ok (.imul, 1) := by decide +kernel
theorem d_Mod_removeEntry_84 : decode prog_12_method_28_code 84 = .ok (.iload_n 2, 1) := by decide +kernel
theorem d_Mod_removeEntry_85 : decode prog_12_method_28_code 85 = .ok (.iadd, 1) := by decide +kernel
theorem d_Mod_removeEntry_86 : decode prog_12_method_28_code 86 = .ok (.baload, 1) := by decide +kernel
theorem d_Mod_removeEntry_87 : decode prog_12_method_28_code 87 = .ok (.bastore, 1) := by decide +kernel
theorem d_Mod_removeEntry_88 : decode prog_12_method_28_code 88 = .ok (.iinc 2 1, 3) := by decide +kernel
theorem d_Mod_removeEntry_91 : decode prog_12_method_28_code 91 = .ok (.goto (-34), 3) := by decide +kernel
theorem d_Mod_removeEntry_94 : decode prog_12_method_28_code 94 = .ok (.return_, 1) := by decide +kernel
set_option maxHeartbeats 4000000 in
set_option maxRecDepth 100000 in
theorem v_Mod_removeEntry_57 {p : Program} {l : Launch} {e : Env} {s : State} {m : MethodId} {args : Array Value} {below : List Frame} {meth : Method} {c : Code} {D : va_G} {ad : Nat → Nat} {ca : Nat → ClassId} {A : Nat → Prop} {FU : Nat} {q : St} (X : FX p s m meth c prog_12_method_28_code 3 none "FlashFilesModel" D (tyM ca) A) : ∀ (n : Nat), ∀ (y1 y2 : Int32) (g : St) (H : Heap) (locs : List Loc) (ls : Array Slot), va_P D cls (wM ad ca g) H → va_D A (wM ad ca g) → va_S A s.heap H locs → lv_has ls 3 [(0, .ref (ad 0)), (1, .int y1), (2, .int y2)] → Mod_removeEntry_b57 FU n y1 y2 g = some q → W p l e (rmN 1) s m args below meth c H locs 0 0 (MQ below (fxQv D (tyM ca) A (wM ad ca q)) args s 0 0 A) (F0 m 57 ls []) := by
  have hx := X.1
  have hb := X.2.1
  intro n
  induction n with
  | zero =>
    intro y1 y2 g H locs ls hP hD hS hl h
    cases h
  | succ n ih =>
    intro y1 y2 g H locs ls hP hD hS hl h
    have h := h
    rw [Mod_removeEntry_b57.eq_2] at h
    refine lv_iload_n hx hb d_Mod_removeEntry_57 rfl (lv_at hl 2 rfl) ?_
    refine lv_bipush (v := 20) hx hb d_Mod_removeEntry_58 (by decide) ?_
    refine lv_icmp_ge (tgt := 94) hx hb d_Mod_removeEntry_60 (by decide) (fun hc => ?_) (fun hc => ?_)
    · have h := if_t hc h
      cases h
      exact fx_vret X hP hD hS d_Mod_removeEntry_94
    · have h := if_f hc h
      refine lv_aload_n hx hb d_Mod_removeEntry_63 rfl (lv_at hl 0 rfl) ?_
      refine gM_mod_entryName X hP d_Mod_removeEntry_64 ?_
      refine lv_bipush (v := 20) hx hb d_Mod_removeEntry_67 (by decide) ?_
      refine lv_iload_n hx hb d_Mod_removeEntry_69 rfl (lv_at hl 1 rfl) ?_
      refine lv_imul hx hb d_Mod_removeEntry_70 ?_
      refine lv_iload_n hx hb d_Mod_removeEntry_71 rfl (lv_at hl 2 rfl) ?_
      refine lv_iadd hx hb d_Mod_removeEntry_72 ?_
      refine lv_aload_n hx hb d_Mod_removeEntry_73 rfl (lv_at hl 0 rfl) ?_
      refine gM_mod_entryName X hP d_Mod_removeEntry_74 ?_
      refine lv_bipush (v := 20) hx hb d_Mod_removeEntry_77 (by decide) ?_
      refine lv_aload_n hx hb d_Mod_removeEntry_79 rfl (lv_at hl 0 rfl) ?_
      refine gM_mod_entries X hP d_Mod_removeEntry_80 ?_
      refine lv_imul hx hb d_Mod_removeEntry_83 ?_
      refine lv_iload_n hx hb d_Mod_removeEntry_84 rfl (lv_at hl 2 rfl) ?_
      refine lv_iadd hx hb d_Mod_removeEntry_85 ?_
      obtain ⟨v1, e1, h⟩ := bd_some h
      refine rM_14 X hP e1 d_Mod_removeEntry_86 ?_
      obtain ⟨g2, e1, h⟩ := bd_some h
      refine sM_14 X hP hD hS e1 d_Mod_removeEntry_87 (fun H locs hP hD hS => ?_)
      refine lv_iinc (k := 2) (v := (y2 + (1 : Int32))) hx hb d_Mod_removeEntry_88 hl rfl (oi_1 _) (by decide) rfl (fun ls hl => ?_)
      have hl : lv_has ls 3 [(2, .int (y2 + (1 : Int32))), (0, .ref (ad 0)), (1, .int y1)] := hl
      refine lv_goto (tgt := 57) hx hb d_Mod_removeEntry_91 (by decide) ?_
      exact ih _ _ _ _ _ _ hP hD hS (lv_sub hl [1, 2, 0] rfl) h
set_option maxHeartbeats 4000000 in
set_option maxRecDepth 100000 in
theorem m_Mod_removeEntry {l : Launch} {D : va_G} {ad : Nat → Nat} {ca : Nat → ClassId} {FU : Nat} {x1 : Int32} {g : St} {q : St} (h : Mod_removeEntry FU x1 g = some q) : CV l ⟨"FlashFilesModel", "removeEntry", "(I)V"⟩ prog_12_method_28_code 3 1 D (tyM ca) (wM ad ca g) [.ref (ad 0), .int x1] (wM ad ca q) := by
  intro sz
  refine Met.fx (Qc := fun A => fxQv D (tyM ca) A (wM ad ca q)) (by decide) (Nat.le_of_ble_eq_true rfl) ?_
  intro p e s m below meth c A ls X hP hD hl
  have hl : lv_has ls 3 [(0, .ref (ad 0)), (1, .int x1)] := hl
  have hS : va_S A s.heap s.heap [] := va_S.rf
  have hx := X.1
  have hb := X.2.1
  unfold Mod_removeEntry at h
  refine lv_aload_n hx hb d_Mod_removeEntry_0 rfl (lv_at hl 0 rfl) ?_
  refine lv_dup hx hb d_Mod_removeEntry_1 rfl ?_
  refine gM_mod_entries X hP d_Mod_removeEntry_2 ?_
  refine lv_iconst (v := 1) hx hb d_Mod_removeEntry_5 (by decide) ?_
  refine lv_isub hx hb d_Mod_removeEntry_6 ?_
  obtain ⟨g3, e1, h⟩ := nx_some h
  refine uM_mod_entries X hP hD hS e1 d_Mod_removeEntry_7 (fun H locs hP hD hS => ?_)
  refine lv_aload_n hx hb d_Mod_removeEntry_10 rfl (lv_at hl 0 rfl) ?_
  refine gM_mod_entryDirectory X hP d_Mod_removeEntry_11 ?_
  refine lv_iload_n hx hb d_Mod_removeEntry_14 rfl (lv_at hl 1 rfl) ?_
  refine lv_aload_n hx hb d_Mod_removeEntry_15 rfl (lv_at hl 0 rfl) ?_
  refine gM_mod_entryDirectory X hP d_Mod_removeEntry_16 ?_
  refine lv_aload_n hx hb d_Mod_removeEntry_19 rfl (lv_at hl 0 rfl) ?_
  refine gM_mod_entries X hP d_Mod_removeEntry_20 ?_
  obtain ⟨v4, e1, h⟩ := bd_some h
  refine rM_11 X hP e1 d_Mod_removeEntry_23 ?_
  obtain ⟨g5, e1, h⟩ := bd_some h
  refine sM_11 X hP hD hS e1 d_Mod_removeEntry_24 (fun H locs hP hD hS => ?_)
  refine lv_aload_n hx hb d_Mod_removeEntry_25 rfl (lv_at hl 0 rfl) ?_
  refine gM_mod_entryId X hP d_Mod_removeEntry_26 ?_
  refine lv_iload_n hx hb d_Mod_removeEntry_29 rfl (lv_at hl 1 rfl) ?_
  refine lv_aload_n hx hb d_Mod_removeEntry_30 rfl (lv_at hl 0 rfl) ?_
  refine gM_mod_entryId X hP d_Mod_removeEntry_31 ?_
  refine lv_aload_n hx hb d_Mod_removeEntry_34 rfl (lv_at hl 0 rfl) ?_
  refine gM_mod_entries X hP d_Mod_removeEntry_35 ?_
  obtain ⟨v6, e1, h⟩ := bd_some h
  refine rM_12 X hP e1 d_Mod_removeEntry_38 ?_
  obtain ⟨g7, e1, h⟩ := bd_some h
  refine sM_12 X hP hD hS e1 d_Mod_removeEntry_39 (fun H locs hP hD hS => ?_)
  refine lv_aload_n hx hb d_Mod_removeEntry_40 rfl (lv_at hl 0 rfl) ?_
  refine gM_mod_entryLength X hP d_Mod_removeEntry_41 ?_
  refine lv_iload_n hx hb d_Mod_removeEntry_44 rfl (lv_at hl 1 rfl) ?_
  refine lv_aload_n hx hb d_Mod_removeEntry_45 rfl (lv_at hl 0 rfl) ?_
  refine gM_mod_entryLength X hP d_Mod_removeEntry_46 ?_
  refine lv_aload_n hx hb d_Mod_removeEntry_49 rfl (lv_at hl 0 rfl) ?_
  refine gM_mod_entries X hP d_Mod_removeEntry_50 ?_
  obtain ⟨v8, e1, h⟩ := bd_some h
  refine rM_13 X hP e1 d_Mod_removeEntry_53 ?_
  obtain ⟨g9, e1, h⟩ := bd_some h
  refine sM_13 X hP hD hS e1 d_Mod_removeEntry_54 (fun H locs hP hD hS => ?_)
  refine lv_iconst (v := 0) hx hb d_Mod_removeEntry_55 (by decide) ?_
  refine lv_istore_n hx hb d_Mod_removeEntry_56 rfl hl (by decide) rfl (fun ls hl => ?_)
  have hl : lv_has ls 3 [(2, .int (0 : Int32)), (0, .ref (ad 0)), (1, .int x1)] := hl
  exact v_Mod_removeEntry_57 X  _ _ _ _ _ _ _ hP hD hS (lv_sub hl [1, 2, 0] rfl) h
theorem d_Mod_freeId_0 : decode prog_12_method_29_code 0 = .ok (.iconst 2, 1) := by decide +kernel
theorem d_Mod_freeId_1 : decode prog_12_method_29_code 1 = .ok (.istore_n 1, 1) := by decide +kernel
theorem d_Mod_freeId_2 : decode prog_12_method_29_code 2 = .ok (.iload_n 1, 1) := by decide +kernel
theorem d_Mod_freeId_3 : decode prog_12_method_29_code 3 = .ok (.sipush 250, 3) := by decide +kernel
theorem d_Mod_freeId_6 : decode prog_12_method_29_code 6 = .ok (.if_icmp .gt 31, 3) := by decide +kernel
theorem d_Mod_freeId_9 : decode prog_12_method_29_code 9 = .ok (.aload_n 0, 1) := by decide +kernel
theorem d_Mod_freeId_10 : decode prog_12_method_29_code 10 = .ok (.getfield 20, 3) := by decide +kernel
theorem d_Mod_freeId_13 : decode prog_12_method_29_code 13 = .ok (.iload_n 1, 1) := by decide +kernel
theorem d_Mod_freeId_14 : decode prog_12_method_29_code 14 = .ok (.iaload, 1) := by decide +kernel
theorem d_Mod_freeId_15 : decode prog_12_method_29_code 15 = .ok (.ifCond .ne 16, 3) := by decide +kernel
theorem d_Mod_freeId_18 : decode prog_12_method_29_code 18 = .ok (.aload_n 0, 1) := by decide +kernel
theorem d_Mod_freeId_19 : decode prog_12_method_29_code 19 = .ok (.getfield 20, 3) := by decide +kernel
theorem d_Mod_freeId_22 : decode prog_12_method_29_code 22 = .ok (.sipush 251, 3) := by decide +kernel
theorem d_Mod_freeId_25 : decode prog_12_method_29_code 25 = .ok (.iload_n 1, 1) := by decide +kernel
theorem d_Mod_freeId_26 : decode prog_12_method_29_code 26 = .ok (.iadd, 1) := by decide +kernel
theorem d_Mod_freeId_27 : decode prog_12_method_29_code 27 = .ok (.iaload, 1) := by decide +kernel
theorem d_Mod_freeId_28 : decode prog_12_method_29_code 28 = .ok (.ifCond .eq 9, 3) := by decide +kernel
theorem d_Mod_freeId_31 : decode prog_12_method_29_code 31 = .ok (.iinc 1 1, 3) := by decide +kernel
theorem d_Mod_freeId_34 : decode prog_12_method_29_code 34 = .ok (.goto (-32), 3) := by decide +kernel
theorem d_Mod_freeId_37 : decode prog_12_method_29_code 37 = .ok (.iload_n 1, 1) := by decide +kernel
theorem d_Mod_freeId_38 : decode prog_12_method_29_code 38 = .ok (.sipush 250, 3) := by decide +kernel
theorem d_Mod_freeId_41 : decode prog_12_method_29_code 41 = .ok (.if_icmp .gt 7, 3) := by decide +kernel
theorem d_Mod_freeId_44 : decode prog_12_method_29_code 44 = .ok (.iload_n 1, 1) := by decide +kernel
theorem d_Mod_freeId_45 : decode prog_12_method_29_code 45 = .ok (.goto 4, 3) := by decide +kernel
theorem d_Mod_freeId_48 : decode prog_12_method_29_code 48 = .ok (.iconst (-1), 1) := by decide +kernel
theorem d_Mod_freeId_49 : decode prog_12_method_29_code 49 = .ok (.ireturn, 1) := by decide +kernel
set_option maxHeartbeats 4000000 in
set_option maxRecDepth 100000 in
theorem v_Mod_freeId_31 {p : Program} {l : Launch} {e : Env} {s : State} {m : MethodId} {args : Array Value} {below : List Frame} {meth : Method} {c : Code} {D : va_G} {ad : Nat → Nat} {ca : Nat → ClassId} {A : Nat → Prop} {FU : Nat} {q : Int32} {g : St} (X : FX p s m meth c prog_12_method_29_code 2 (some .int) "FlashFilesModel" D (tyM ca) A) {k2 : Int32 → St → Option (Int32)} (hk2 : ∀ (y1 : Int32) (H : Heap) (locs : List Loc) (ls : Array Slot), va_P D cls (wM ad ca g) H → va_D A (wM ad ca g) → va_S A s.heap H locs → lv_has ls 2 [(0, .ref (ad 0)), (1, .int y1)] → k2 y1 g = some q → W p l e (rmN 1) s m args below meth c H locs 0 0 (MQ below (fxQi D (tyM ca) A (wM ad ca g) q) args s 0 0 A) (F0 m 2 ls [])) {y1 : Int32}  {H : Heap} {locs : List Loc} {ls : Array Slot} (hP : va_P D cls (wM ad ca g) H) (hD : va_D A (wM ad ca g)) (hS : va_S A s.heap H locs) (hl : lv_has ls 2 [(0, .ref (ad 0)), (1, .int y1)]) (h : Mod_freeId_b31 FU k2 y1 g = some q) : W p l e (rmN 1) s m args below meth c H locs 0 0 (MQ below (fxQi D (tyM ca) A (wM ad ca g) q) args s 0 0 A) (F0 m 31 ls []) := by
  have hx := X.1
  have hb := X.2.1
  unfold Mod_freeId_b31 at h
  refine lv_iinc (k := 1) (v := (y1 + (1 : Int32))) hx hb d_Mod_freeId_31 hl rfl (oi_1 _) (by decide) rfl (fun ls hl => ?_)
  have hl : lv_has ls 2 [(1, .int (y1 + (1 : Int32))), (0, .ref (ad 0))] := hl
  refine lv_goto (tgt := 2) hx hb d_Mod_freeId_34 (by decide) ?_
  exact hk2 _ _ _ _ hP hD hS (lv_sub hl [1, 0] rfl) h
set_option maxHeartbeats 4000000 in
set_option maxRecDepth 100000 in
theorem v_Mod_freeId_2 {p : Program} {l : Launch} {e : Env} {s : State} {m : MethodId} {args : Array Value} {below : List Frame} {meth : Method} {c : Code} {D : va_G} {ad : Nat → Nat} {ca : Nat → ClassId} {A : Nat → Prop} {FU : Nat} {q : Int32} {g : St} (X : FX p s m meth c prog_12_method_29_code 2 (some .int) "FlashFilesModel" D (tyM ca) A) : ∀ (n : Nat), ∀ (y1 : Int32) (H : Heap) (locs : List Loc) (ls : Array Slot), va_P D cls (wM ad ca g) H → va_D A (wM ad ca g) → va_S A s.heap H locs → lv_has ls 2 [(0, .ref (ad 0)), (1, .int y1)] → Mod_freeId_b2 FU n y1 g = some q → W p l e (rmN 1) s m args below meth c H locs 0 0 (MQ below (fxQi D (tyM ca) A (wM ad ca g) q) args s 0 0 A) (F0 m 2 ls []) := by
  have hx := X.1
  have hb := X.2.1
  intro n
  induction n with
  | zero =>
    intro y1 H locs ls hP hD hS hl h
    cases h
  | succ n ih =>
    intro y1 H locs ls hP hD hS hl h
    have h := h
    rw [Mod_freeId_b2.eq_2] at h
    refine lv_iload_n hx hb d_Mod_freeId_2 rfl (lv_at hl 1 rfl) ?_
    refine lv_sipush (v := 250) hx hb d_Mod_freeId_3 (by decide) ?_
    refine lv_icmp_gt (tgt := 37) hx hb d_Mod_freeId_6 (by decide) (fun hc => ?_) (fun hc => ?_)
    · have h := if_t hc h
      refine lv_iload_n hx hb d_Mod_freeId_37 rfl (lv_at hl 1 rfl) ?_
      refine lv_sipush (v := 250) hx hb d_Mod_freeId_38 (by decide) ?_
      refine lv_icmp_gt (tgt := 48) hx hb d_Mod_freeId_41 (by decide) (fun hc => ?_) (fun hc => ?_)
      · have h := if_t hc h
        refine lv_iconst (v := -1) hx hb d_Mod_freeId_48 (by decide) ?_
        cases h
        exact fx_iret X hP hD hS d_Mod_freeId_49
      · have h := if_f hc h
        refine lv_iload_n hx hb d_Mod_freeId_44 rfl (lv_at hl 1 rfl) ?_
        refine lv_goto (tgt := 49) hx hb d_Mod_freeId_45 (by decide) ?_
        cases h
        exact fx_iret X hP hD hS d_Mod_freeId_49
    · have h := if_f hc h
      refine lv_aload_n hx hb d_Mod_freeId_9 rfl (lv_at hl 0 rfl) ?_
      refine gM_mod_kind X hP d_Mod_freeId_10 ?_
      refine lv_iload_n hx hb d_Mod_freeId_13 rfl (lv_at hl 1 rfl) ?_
      obtain ⟨v1, e1, h⟩ := bd_some h
      refine rM_2 X hP e1 d_Mod_freeId_14 ?_
      refine lv_if_ne (tgt := 31) hx hb d_Mod_freeId_15 (by decide) (fun hc => ?_) (fun hc => ?_)
      · have h := if_f hc h
        exact v_Mod_freeId_31 X ih hP hD hS (lv_sub hl [0, 1] rfl) h
      · have h := if_t hc h
        refine lv_aload_n hx hb d_Mod_freeId_18 rfl (lv_at hl 0 rfl) ?_
        refine gM_mod_kind X hP d_Mod_freeId_19 ?_
        refine lv_sipush (v := 251) hx hb d_Mod_freeId_22 (by decide) ?_
        refine lv_iload_n hx hb d_Mod_freeId_25 rfl (lv_at hl 1 rfl) ?_
        refine lv_iadd hx hb d_Mod_freeId_26 ?_
        obtain ⟨v2, e1, h⟩ := bd_some h
        refine rM_2 X hP e1 d_Mod_freeId_27 ?_
        refine lv_if_eq (tgt := 37) hx hb d_Mod_freeId_28 (by decide) (fun hc => ?_) (fun hc => ?_)
        · have h := if_t hc h
          refine lv_iload_n hx hb d_Mod_freeId_37 rfl (lv_at hl 1 rfl) ?_
          refine lv_sipush (v := 250) hx hb d_Mod_freeId_38 (by decide) ?_
          refine lv_icmp_gt (tgt := 48) hx hb d_Mod_freeId_41 (by decide) (fun hc => ?_) (fun hc => ?_)
          · have h := if_t hc h
            refine lv_iconst (v := -1) hx hb d_Mod_freeId_48 (by decide) ?_
            cases h
            exact fx_iret X hP hD hS d_Mod_freeId_49
          · have h := if_f hc h
            refine lv_iload_n hx hb d_Mod_freeId_44 rfl (lv_at hl 1 rfl) ?_
            refine lv_goto (tgt := 49) hx hb d_Mod_freeId_45 (by decide) ?_
            cases h
            exact fx_iret X hP hD hS d_Mod_freeId_49
        · have h := if_f hc h
          exact v_Mod_freeId_31 X ih hP hD hS (lv_sub hl [0, 1] rfl) h
set_option maxHeartbeats 4000000 in
set_option maxRecDepth 100000 in
theorem m_Mod_freeId {l : Launch} {D : va_G} {ad : Nat → Nat} {ca : Nat → ClassId} {FU : Nat} {g : St} {q : Int32} (h : Mod_freeId FU  g = some q) : CI l ⟨"FlashFilesModel", "freeId", "()I"⟩ prog_12_method_29_code 2 1 (some .int) D (tyM ca) (wM ad ca g) [.ref (ad 0)] q (wM ad ca g) := by
  intro sz
  refine Met.fx (Qc := fun A => fxQi D (tyM ca) A (wM ad ca g) q) (by decide) (Nat.le_of_ble_eq_true rfl) ?_
  intro p e s m below meth c A ls X hP hD hl
  have hl : lv_has ls 2 [(0, .ref (ad 0))] := hl
  have hS : va_S A s.heap s.heap [] := va_S.rf
  have hx := X.1
  have hb := X.2.1
  unfold Mod_freeId at h
  refine lv_iconst (v := 2) hx hb d_Mod_freeId_0 (by decide) ?_
  refine lv_istore_n hx hb d_Mod_freeId_1 rfl hl (by decide) rfl (fun ls hl => ?_)
  have hl : lv_has ls 2 [(1, .int (2 : Int32)), (0, .ref (ad 0))] := hl
  exact v_Mod_freeId_2 X  _ _ _ _ _ hP hD hS (lv_sub hl [1, 0] rfl) h
theorem d_Mod_done_0 : decode prog_12_method_30_code 0 = .ok (.aload_n 0, 1) := by decide +kernel
theorem d_Mod_done_1 : decode prog_12_method_30_code 1 = .ok (.iconst 0, 1) := by decide +kernel
theorem d_Mod_done_2 : decode prog_12_method_30_code 2 = .ok (.putfield 158, 3) := by decide +kernel
theorem d_Mod_done_5 : decode prog_12_method_30_code 5 = .ok (.return_, 1) := by decide +kernel
set_option maxHeartbeats 4000000 in
set_option maxRecDepth 100000 in
theorem m_Mod_done {l : Launch} {D : va_G} {ad : Nat → Nat} {ca : Nat → ClassId} {FU : Nat} {g : St} {q : St} (h : Mod_done FU  g = some q) : CV l ⟨"FlashFilesModel", "done", "()V"⟩ prog_12_method_30_code 1 1 D (tyM ca) (wM ad ca g) [.ref (ad 0)] (wM ad ca q) := by
  intro sz
  refine Met.fx (Qc := fun A => fxQv D (tyM ca) A (wM ad ca q)) (by decide) (Nat.le_of_ble_eq_true rfl) ?_
  intro p e s m below meth c A ls X hP hD hl
  have hl : lv_has ls 1 [(0, .ref (ad 0))] := hl
  have hS : va_S A s.heap s.heap [] := va_S.rf
  have hx := X.1
  have hb := X.2.1
  unfold Mod_done at h
  refine lv_aload_n hx hb d_Mod_done_0 rfl (lv_at hl 0 rfl) ?_
  refine lv_iconst (v := 0) hx hb d_Mod_done_1 (by decide) ?_
  obtain ⟨g1, e1, h⟩ := nx_some h
  refine uM_mod_taped X hP hD hS e1 d_Mod_done_2 (fun H locs hP hD hS => ?_)
  cases h
  exact fx_vret X hP hD hS d_Mod_done_5
theorem d_Mod_create_0 : decode prog_12_method_31_code 0 = .ok (.aload_n 0, 1) := by decide +kernel
theorem d_Mod_create_1 : decode prog_12_method_31_code 1 = .ok (.invokevirtual 169, 3) := by decide +kernel
theorem d_Mod_create_4 : decode prog_12_method_31_code 4 = .ok (.ifCond .eq 5, 3) := by decide +kernel
theorem d_Mod_create_7 : decode prog_12_method_31_code 7 = .ok (.iconst 0, 1) := by decide +kernel
theorem d_Mod_create_8 : decode prog_12_method_31_code 8 = .ok (.ireturn, 1) := by decide +kernel
theorem d_Mod_create_9 : decode prog_12_method_31_code 9 = .ok (.aload_n 0, 1) := by decide +kernel
theorem d_Mod_create_10 : decode prog_12_method_31_code 10 = .ok (.iload_n 1, 1) := by decide +kernel
theorem d_Mod_create_11 : decode prog_12_method_31_code 11 = .ok (.iconst 2, 1) := by decide +kernel
theorem d_Mod_create_12 : decode prog_12_method_31_code 12 = .ok (.invokevirtual 172, 3) := by decide +kernel
theorem d_Mod_create_15 : decode prog_12_method_31_code 15 = .ok (.ifCond .eq 12, 3) := by decide +kernel
theorem d_Mod_create_18 : decode prog_12_method_31_code 18 = .ok (.aload_n 0, 1) := by decide +kernel
theorem d_Mod_create_19 : decode prog_12_method_31_code 19 = .ok (.iconst 0, 1) := by decide +kernel
theorem d_Mod_create_20 : decode prog_12_method_31_code 20 = .ok (.iload_n 2, 1) := by decide +kernel
theorem d_Mod_create_21 : decode prog_12_method_31_code 21 = .ok (.invokevirtual 176, 3) := by decide +kernel
theorem d_Mod_create_24 : decode prog_12_method_31_code 24 = .ok (.ifCond .ne 7, 3) := by decide +kernel
theorem d_Mod_create_27 : decode prog_12_method_31_code 27 = .ok (.iconst 1, 1) := by decide +kernel
theorem d_Mod_create_28 : decode prog_12_method_31_code 28 = .ok (.goto 4, 3) := by decide +kernel
theorem d_Mod_create_31 : decode prog_12_method_31_code 31 = .ok (.iconst 0, 1) := by decide +kernel
theorem d_Mod_create_32 : decode prog_12_method_31_code 32 = .ok (.istore 4, 2) := by decide +kernel
theorem d_Mod_create_34 : decode prog_12_method_31_code 34 = .ok (.iload 4, 2) := by decide +kernel
theorem d_Mod_create_36 : decode prog_12_method_31_code 36 = .ok (.ifCond .ne 30, 3) := by decide +kernel
theorem d_Mod_create_39 : decode prog_12_method_31_code 39 = .ok (.aload_n 0, 1) := by decide +kernel
theorem d_Mod_create_40 : decode prog_12_method_31_code 40 = .ok (.iload_n 1, 1) := by decide +kernel
theorem d_Mod_create_41 : decode prog_12_method_31_code 41 = .ok (.iconst 0, 1) := by decide +kernel
theorem d_Mod_create_42 : decode prog_12_method_31_code 42 = .ok (.iload_n 2, 1) := by decide +kernel
theorem d_Mod_create_43 : decode prog_12_method_31_code 43 = .ok (.invokevirtual 179, 3) := by decide +kernel
theorem d_Mod_create_46 : decode prog_12_method_31_code 46 = .ok (.ifCond .ge 20, 3) := by decide +kernel
theorem d_Mod_create_49 : decode prog_12_method_31_code 49 = .ok (.aload_n 0, 1) := by decide +kernel
theorem d_Mod_create_50 : decode prog_12_method_31_code 50 = .ok (.iload_n 1, 1) := by decide +kernel
theorem d_Mod_create_51 : decode prog_12_method_31_code 51 = .ok (.invokevirtual 97, 3) := by decide +kernel
theorem d_Mod_create_54 : decode prog_12_method_31_code 54 = .ok (.bipush 48, 2) := by decide +kernel
theorem d_Mod_create_56 : decode prog_12_method_31_code 56 = .ok (.if_icmp .eq 10, 3) := by decide +kernel
theorem d_Mod_create_59 : decode prog_12_method_31_code 59 = .ok (.aload_n 0, 1) := by decide +kernel
theorem d_Mod_create_60 : decode prog_12_method_31_code 60 = .ok (.invokevirtual 182, 3) := by decide +kernel
theorem d_Mod_create_63 : decode prog_12_method_31_code 63 = .ok (.ifCond .ge 7, 3) := by decide +kernel
theorem d_Mod_create_66 : decode prog_12_method_31_code 66 = .ok (.iconst 1, 1) := by decide +kernel
theorem d_Mod_create_67 : decode prog_12_method_31_code 67 = .ok (.goto 4, 3) := by decide +kernel
theorem d_Mod_create_70 : decode prog_12_method_31_code 70 = .ok (.iconst 0, 1) := by decide +kernel
theorem d_Mod_create_71 : decode prog_12_method_31_code 71 = .ok (.istore 5, 2) := by decide +kernel
theorem d_Mod_create_73 : decode prog_12_method_31_code 73 = .ok (.aload_n 0, 1) := by decide +kernel
theorem d_Mod_create_74 : decode prog_12_method_31_code 74 = .ok (.invokevirtual 185, 3) := by decide +kernel
theorem d_Mod_create_77 : decode prog_12_method_31_code 77 = .ok (.aload_n 0, 1) := by decide +kernel
theorem d_Mod_create_78 : decode prog_12_method_31_code 78 = .ok (.iload 4, 2) := by decide +kernel
theorem d_Mod_create_80 : decode prog_12_method_31_code 80 = .ok (.iload 5, 2) := by decide +kernel
theorem d_Mod_create_82 : decode prog_12_method_31_code 82 = .ok (.invokevirtual 148, 3) := by decide +kernel
theorem d_Mod_create_85 : decode prog_12_method_31_code 85 = .ok (.ifCond .ne 11, 3) := by decide +kernel
theorem d_Mod_create_88 : decode prog_12_method_31_code 88 = .ok (.aload_n 0, 1) := by decide +kernel
theorem d_Mod_create_89 : decode prog_12_method_31_code 89 = .ok (.iconst 4, 1) := by decide +kernel
theorem d_Mod_create_90 : decode prog_12_method_31_code 90 = .ok (.invokevirtual 188, 3) := by decide +kernel
theorem d_Mod_create_93 : decode prog_12_method_31_code 93 = .ok (.ifCond .eq 5, 3) := by decide +kernel
theorem d_Mod_create_96 : decode prog_12_method_31_code 96 = .ok (.iconst 0, 1) := by decide +kernel
theorem d_Mod_create_97 : decode prog_12_method_31_code 97 = .ok (.ireturn, 1) := by decide +kernel
theorem d_Mod_create_98 : decode prog_12_method_31_code 98 = .ok (.aload_n 0, 1) := by decide +kernel
theorem d_Mod_create_99 : decode prog_12_method_31_code 99 = .ok (.invokevirtual 182, 3) := by decide +kernel
theorem d_Mod_create_102 : decode prog_12_method_31_code 102 = .ok (.istore 6, 2) := by decide +kernel
theorem d_Mod_create_104 : decode prog_12_method_31_code 104 = .ok (.aload_n 0, 1) := by decide +kernel
theorem d_Mod_create_105 : decode prog_12_method_31_code 105 = .ok (.getfield 20, 3) := by decide +kernel
theorem d_Mod_create_108 : decode prog_12_method_31_code 108 = .ok (.iload 6, 2) := by decide +kernel
theorem d_Mod_create_110 : decode prog_12_method_31_code 110 = .ok (.iload_n 3, 1) := by decide +kernel
theorem d_Mod_create_111 : decode prog_12_method_31_code 111 = .ok (.iastore, 1) := by decide +kernel
theorem d_Mod_create_112 : decode prog_12_method_31_code 112 = .ok (.aload_n 0, 1) := by decide +kernel
theorem d_Mod_create_113 : decode prog_12_method_31_code 113 = .ok (.getfield 24, 3) := by decide +kernel
theorem d_Mod_create_116 : decode prog_12_method_31_code 116 = .ok (.iload 6, 2) := by decide +kernel
theorem d_Mod_create_118 : decode prog_12_method_31_code 118 = .ok (.iconst 0, 1) := by decide +kernel
theorem d_Mod_create_119 : decode prog_12_method_31_code 119 = .ok (.iastore, 1) := by decide +kernel
theorem d_Mod_create_120 : decode prog_12_method_31_code 120 = .ok (.aload_n 0, 1) := by decide +kernel
theorem d_Mod_create_121 : decode prog_12_method_31_code 121 = .ok (.getfield 27, 3) := by decide +kernel
theorem d_Mod_create_124 : decode prog_12_method_31_code 124 = .ok (.iload 6, 2) := by decide +kernel
theorem d_Mod_create_126 : decode prog_12_method_31_code 126 = .ok (.iconst 1, 1) := by decide +kernel
theorem d_Mod_create_127 : decode prog_12_method_31_code 127 = .ok (.iastore, 1) := by decide +kernel
theorem d_Mod_create_128 : decode prog_12_method_31_code 128 = .ok (.aload_n 0, 1) := by decide +kernel
theorem d_Mod_create_129 : decode prog_12_method_31_code 129 = .ok (.getfield 30, 3) := by decide +kernel
theorem d_Mod_create_132 : decode prog_12_method_31_code 132 = .ok (.iload 6, 2) := by decide +kernel
theorem d_Mod_create_134 : decode prog_12_method_31_code 134 = .ok (.iconst 1, 1) := by decide +kernel
theorem d_Mod_create_135 : decode prog_12_method_31_code 135 = .ok (.bastore, 1) := by decide +kernel
theorem d_Mod_create_136 : decode prog_12_method_31_code 136 = .ok (.aload_n 0, 1) := by decide +kernel
theorem d_Mod_create_137 : decode prog_12_method_31_code 137 = .ok (.getfield 37, 3) := by decide +kernel
theorem d_Mod_create_140 : decode prog_12_method_31_code 140 = .ok (.iload 6, 2) := by decide +kernel
theorem d_Mod_create_142 : decode prog_12_method_31_code 142 = .ok (.iconst 1, 1) := by decide +kernel
theorem d_Mod_create_143 : decode prog_12_method_31_code 143 = .ok (.bastore, 1) := by decide +kernel
theorem d_Mod_create_144 : decode prog_12_method_31_code 144 = .ok (.aload_n 0, 1) := by decide +kernel
theorem d_Mod_create_145 : decode prog_12_method_31_code 145 = .ok (.iload_n 1, 1) := by decide +kernel
theorem d_Mod_create_146 : decode prog_12_method_31_code 146 = .ok (.iload_n 2, 1) := by decide +kernel
theorem d_Mod_create_147 : decode prog_12_method_31_code 147 = .ok (.iload 6, 2) := by decide +kernel
theorem d_Mod_create_149 : decode prog_12_method_31_code 149 = .ok (.invokevirtual 191, 3) := by decide +kernel
theorem d_Mod_create_152 : decode prog_12_method_31_code 152 = .ok (.iload 6, 2) := by decide +kernel
theorem d_Mod_create_154 : decode prog_12_method_31_code 154 = .ok (.ireturn, 1) := by decide +kernel
set_option maxHeartbeats 4000000 in
set_option maxRecDepth 100000 in
theorem v_Mod_create_71 {p : Program} {l : Launch} {e : Env} {s : State} {m : MethodId} {args : Array Value} {below : List Frame} {meth : Method} {c : Code} {D : va_G} {ad : Nat → Nat} {ca : Nat → ClassId} {A : Nat → Prop} {FU : Nat} {q : Int32 × St} (X : FX p s m meth c prog_12_method_31_code 7 (some .int) "FlashFilesModel" D (tyM ca) A) {y1 : Int32} {y2 : Int32} {y3 : Int32} {y4 : Int32} {z0 : Int32} {g : St} {H : Heap} {locs : List Loc} {ls : Array Slot} (hP : va_P D cls (wM ad ca g) H) (hD : va_D A (wM ad ca g)) (hS : va_S A s.heap H locs) (hl : lv_has ls 7 [(0, .ref (ad 0)), (1, .int y1), (2, .int y2), (3, .int y3), (4, .int y4)]) (h : Mod_create_b71 FU y1 y2 y3 y4 z0 g = some q) : W p l e (rmN 6) s m args below meth c H locs 0 0 (MQ below (fxQi D (tyM ca) A (wM ad ca q.2) q.1) args s 0 0 A) (F0 m 71 ls [.int z0]) := by
  have hx := X.1
  have hb := X.2.1
  unfold Mod_create_b71 at h
  refine lv_istore hx hb d_Mod_create_71 hl (by decide) rfl (fun ls hl => ?_)
  have hl : lv_has ls 7 [(5, .int z0), (0, .ref (ad 0)), (1, .int y1), (2, .int y2), (3, .int y3), (4, .int y4)] := hl
  refine lv_aload_n hx hb d_Mod_create_73 rfl (lv_at hl 1 rfl) ?_
  obtain ⟨p1, e1, h⟩ := bd_some h
  refine fx_v X (fx_runV (As := []) X (m_Mod_done e1 _) hP hD kv_Mod_185 ⟨Nat.le_of_ble_eq_true rfl, Nat.le_of_ble_eq_true rfl⟩ 0 rfl rfl rfl hl.1 rfl (Nat.le_of_ble_eq_true rfl) d_Mod_create_74) hD hS (fun H locs hP hD hS => ?_)
  refine lv_aload_n hx hb d_Mod_create_77 rfl (lv_at hl 1 rfl) ?_
  refine lv_iload hx hb d_Mod_create_78 (lv_at hl 5 rfl) ?_
  refine lv_iload hx hb d_Mod_create_80 (lv_at hl 0 rfl) ?_
  obtain ⟨p2, e1, h⟩ := bd_some h
  refine fx_i X (fx_runV (As := [.int y4, .int z0]) X (m_Mod_throwing e1 _) hP hD kv_Mod_148 ⟨Nat.le_of_ble_eq_true rfl, Nat.le_of_ble_eq_true rfl⟩ 0 rfl rfl rfl hl.1 rfl (Nat.le_of_ble_eq_true rfl) d_Mod_create_82) hD hS (fun H locs hP hD hS => ?_)
  refine lv_if_ne (tgt := 96) hx hb d_Mod_create_85 (by decide) (fun hc => ?_) (fun hc => ?_)
  · have h := if_f hc h
    refine lv_iconst (v := 0) hx hb d_Mod_create_96 (by decide) ?_
    cases h
    exact fx_iret X hP hD hS d_Mod_create_97
  · have h := if_t hc h
    refine lv_aload_n hx hb d_Mod_create_88 rfl (lv_at hl 1 rfl) ?_
    refine lv_iconst (v := 4) hx hb d_Mod_create_89 (by decide) ?_
    obtain ⟨p3, e1, h⟩ := bd_some h
    refine fx_i X (fx_runV (As := [.int (4 : Int32)]) X (m_Mod_stops e1 _) hP hD kv_Mod_188 ⟨Nat.le_of_ble_eq_true rfl, Nat.le_of_ble_eq_true rfl⟩ 0 rfl rfl rfl hl.1 rfl (Nat.le_of_ble_eq_true rfl) d_Mod_create_90) hD hS (fun H locs hP hD hS => ?_)
    refine lv_if_eq (tgt := 98) hx hb d_Mod_create_93 (by decide) (fun hc => ?_) (fun hc => ?_)
    · have h := if_t hc h
      refine lv_aload_n hx hb d_Mod_create_98 rfl (lv_at hl 1 rfl) ?_
      obtain ⟨v4, e1, h⟩ := bd_some h
      refine fx_i X (fx_runV (As := []) X (m_Mod_freeId e1 _) hP hD kv_Mod_182 ⟨Nat.le_of_ble_eq_true rfl, Nat.le_of_ble_eq_true rfl⟩ 0 rfl rfl rfl hl.1 rfl (Nat.le_of_ble_eq_true rfl) d_Mod_create_99) hD hS (fun H locs hP hD hS => ?_)
      refine lv_istore hx hb d_Mod_create_102 hl (by decide) rfl (fun ls hl => ?_)
      have hl : lv_has ls 7 [(6, .int v4), (5, .int z0), (0, .ref (ad 0)), (1, .int y1), (2, .int y2), (3, .int y3), (4, .int y4)] := hl
      refine lv_aload_n hx hb d_Mod_create_104 rfl (lv_at hl 2 rfl) ?_
      refine gM_mod_kind X hP d_Mod_create_105 ?_
      refine lv_iload hx hb d_Mod_create_108 (lv_at hl 0 rfl) ?_
      refine lv_iload_n hx hb d_Mod_create_110 rfl (lv_at hl 5 rfl) ?_
      obtain ⟨g5, e1, h⟩ := bd_some h
      refine sM_2 X hP hD hS e1 d_Mod_create_111 (fun H locs hP hD hS => ?_)
      refine lv_aload_n hx hb d_Mod_create_112 rfl (lv_at hl 2 rfl) ?_
      refine gM_mod_size X hP d_Mod_create_113 ?_
      refine lv_iload hx hb d_Mod_create_116 (lv_at hl 0 rfl) ?_
      refine lv_iconst (v := 0) hx hb d_Mod_create_118 (by decide) ?_
      obtain ⟨g6, e1, h⟩ := bd_some h
      refine sM_3 X hP hD hS e1 d_Mod_create_119 (fun H locs hP hD hS => ?_)
      refine lv_aload_n hx hb d_Mod_create_120 rfl (lv_at hl 2 rfl) ?_
      refine gM_mod_links X hP d_Mod_create_121 ?_
      refine lv_iload hx hb d_Mod_create_124 (lv_at hl 0 rfl) ?_
      refine lv_iconst (v := 1) hx hb d_Mod_create_126 (by decide) ?_
      obtain ⟨g7, e1, h⟩ := bd_some h
      refine sM_4 X hP hD hS e1 d_Mod_create_127 (fun H locs hP hD hS => ?_)
      refine lv_aload_n hx hb d_Mod_create_128 rfl (lv_at hl 2 rfl) ?_
      refine gM_mod_small X hP d_Mod_create_129 ?_
      refine lv_iload hx hb d_Mod_create_132 (lv_at hl 0 rfl) ?_
      refine lv_iconst (v := 1) hx hb d_Mod_create_134 (by decide) ?_
      obtain ⟨g8, e1, h⟩ := bd_some h
      refine sM_5 X hP hD hS e1 d_Mod_create_135 (fun H locs hP hD hS => ?_)
      refine lv_aload_n hx hb d_Mod_create_136 rfl (lv_at hl 2 rfl) ?_
      refine gM_mod_renamed X hP d_Mod_create_137 ?_
      refine lv_iload hx hb d_Mod_create_140 (lv_at hl 0 rfl) ?_
      refine lv_iconst (v := 1) hx hb d_Mod_create_142 (by decide) ?_
      obtain ⟨g9, e1, h⟩ := bd_some h
      refine sM_7 X hP hD hS e1 d_Mod_create_143 (fun H locs hP hD hS => ?_)
      refine lv_aload_n hx hb d_Mod_create_144 rfl (lv_at hl 2 rfl) ?_
      refine lv_iload_n hx hb d_Mod_create_145 rfl (lv_at hl 3 rfl) ?_
      refine lv_iload_n hx hb d_Mod_create_146 rfl (lv_at hl 4 rfl) ?_
      refine lv_iload hx hb d_Mod_create_147 (lv_at hl 0 rfl) ?_
      obtain ⟨p10, e1, h⟩ := bd_some h
      refine fx_v X (fx_runV (As := [.int y1, .int y2, .int v4]) X (m_Mod_addEntry e1 _) hP hD kv_Mod_191 ⟨Nat.le_of_ble_eq_true rfl, Nat.le_of_ble_eq_true rfl⟩ 0 rfl rfl rfl hl.1 rfl (Nat.le_of_ble_eq_true rfl) d_Mod_create_149) hD hS (fun H locs hP hD hS => ?_)
      refine lv_iload hx hb d_Mod_create_152 (lv_at hl 0 rfl) ?_
      cases h
      exact fx_iret X hP hD hS d_Mod_create_154
    · have h := if_f hc h
      refine lv_iconst (v := 0) hx hb d_Mod_create_96 (by decide) ?_
      cases h
      exact fx_iret X hP hD hS d_Mod_create_97
set_option maxHeartbeats 4000000 in
set_option maxRecDepth 100000 in
theorem v_Mod_create_66 {p : Program} {l : Launch} {e : Env} {s : State} {m : MethodId} {args : Array Value} {below : List Frame} {meth : Method} {c : Code} {D : va_G} {ad : Nat → Nat} {ca : Nat → ClassId} {A : Nat → Prop} {FU : Nat} {q : Int32 × St} (X : FX p s m meth c prog_12_method_31_code 7 (some .int) "FlashFilesModel" D (tyM ca) A) {y1 : Int32} {y2 : Int32} {y3 : Int32} {y4 : Int32} {g : St} {H : Heap} {locs : List Loc} {ls : Array Slot} (hP : va_P D cls (wM ad ca g) H) (hD : va_D A (wM ad ca g)) (hS : va_S A s.heap H locs) (hl : lv_has ls 7 [(0, .ref (ad 0)), (1, .int y1), (2, .int y2), (3, .int y3), (4, .int y4)]) (h : Mod_create_b66 FU y1 y2 y3 y4 g = some q) : W p l e (rmN 6) s m args below meth c H locs 0 0 (MQ below (fxQi D (tyM ca) A (wM ad ca q.2) q.1) args s 0 0 A) (F0 m 66 ls []) := by
  have hx := X.1
  have hb := X.2.1
  unfold Mod_create_b66 at h
  refine lv_iconst (v := 1) hx hb d_Mod_create_66 (by decide) ?_
  refine lv_goto (tgt := 71) hx hb d_Mod_create_67 (by decide) ?_
  exact v_Mod_create_71 X  hP hD hS (lv_sub hl [0, 1, 2, 3, 4] rfl) h
set_option maxHeartbeats 4000000 in
set_option maxRecDepth 100000 in
theorem v_Mod_create_32 {p : Program} {l : Launch} {e : Env} {s : State} {m : MethodId} {args : Array Value} {below : List Frame} {meth : Method} {c : Code} {D : va_G} {ad : Nat → Nat} {ca : Nat → ClassId} {A : Nat → Prop} {FU : Nat} {q : Int32 × St} (X : FX p s m meth c prog_12_method_31_code 7 (some .int) "FlashFilesModel" D (tyM ca) A) {y1 : Int32} {y2 : Int32} {y3 : Int32} {z0 : Int32} {g : St} {H : Heap} {locs : List Loc} {ls : Array Slot} (hP : va_P D cls (wM ad ca g) H) (hD : va_D A (wM ad ca g)) (hS : va_S A s.heap H locs) (hl : lv_has ls 7 [(0, .ref (ad 0)), (1, .int y1), (2, .int y2), (3, .int y3)]) (h : Mod_create_b32 FU y1 y2 y3 z0 g = some q) : W p l e (rmN 6) s m args below meth c H locs 0 0 (MQ below (fxQi D (tyM ca) A (wM ad ca q.2) q.1) args s 0 0 A) (F0 m 32 ls [.int z0]) := by
  have hx := X.1
  have hb := X.2.1
  unfold Mod_create_b32 at h
  refine lv_istore hx hb d_Mod_create_32 hl (by decide) rfl (fun ls hl => ?_)
  have hl : lv_has ls 7 [(4, .int z0), (0, .ref (ad 0)), (1, .int y1), (2, .int y2), (3, .int y3)] := hl
  refine lv_iload hx hb d_Mod_create_34 (lv_at hl 0 rfl) ?_
  refine lv_if_ne (tgt := 66) hx hb d_Mod_create_36 (by decide) (fun hc => ?_) (fun hc => ?_)
  · have h := if_f hc h
    exact v_Mod_create_66 X  hP hD hS (lv_sub hl [1, 2, 3, 4, 0] rfl) h
  · have h := if_t hc h
    refine lv_aload_n hx hb d_Mod_create_39 rfl (lv_at hl 1 rfl) ?_
    refine lv_iload_n hx hb d_Mod_create_40 rfl (lv_at hl 2 rfl) ?_
    refine lv_iconst (v := 0) hx hb d_Mod_create_41 (by decide) ?_
    refine lv_iload_n hx hb d_Mod_create_42 rfl (lv_at hl 3 rfl) ?_
    obtain ⟨v11, e1, h⟩ := bd_some h
    refine fx_i X (fx_runV (As := [.int y1, .int (0 : Int32), .int y2]) X (m_Mod_seek e1 _) hP hD kv_Mod_179 ⟨Nat.le_of_ble_eq_true rfl, Nat.le_of_ble_eq_true rfl⟩ 0 rfl rfl rfl hl.1 rfl (Nat.le_of_ble_eq_true rfl) d_Mod_create_43) hD hS (fun H locs hP hD hS => ?_)
    refine lv_if_ge (tgt := 66) hx hb d_Mod_create_46 (by decide) (fun hc => ?_) (fun hc => ?_)
    · have h := if_t hc h
      exact v_Mod_create_66 X  hP hD hS (lv_sub hl [1, 2, 3, 4, 0] rfl) h
    · have h := if_f hc h
      refine lv_aload_n hx hb d_Mod_create_49 rfl (lv_at hl 1 rfl) ?_
      refine lv_iload_n hx hb d_Mod_create_50 rfl (lv_at hl 2 rfl) ?_
      obtain ⟨v12, e1, h⟩ := bd_some h
      refine fx_i X (fx_runV (As := [.int y1]) X (m_Mod_namesOf e1 _) hP hD kv_Mod_97 ⟨Nat.le_of_ble_eq_true rfl, Nat.le_of_ble_eq_true rfl⟩ 0 rfl rfl rfl hl.1 rfl (Nat.le_of_ble_eq_true rfl) d_Mod_create_51) hD hS (fun H locs hP hD hS => ?_)
      refine lv_bipush (v := 48) hx hb d_Mod_create_54 (by decide) ?_
      refine lv_icmp_eq (tgt := 66) hx hb d_Mod_create_56 (by decide) (fun hc => ?_) (fun hc => ?_)
      · have h := if_t hc h
        exact v_Mod_create_66 X  hP hD hS (lv_sub hl [1, 2, 3, 4, 0] rfl) h
      · have h := if_f hc h
        refine lv_aload_n hx hb d_Mod_create_59 rfl (lv_at hl 1 rfl) ?_
        obtain ⟨v13, e1, h⟩ := bd_some h
        refine fx_i X (fx_runV (As := []) X (m_Mod_freeId e1 _) hP hD kv_Mod_182 ⟨Nat.le_of_ble_eq_true rfl, Nat.le_of_ble_eq_true rfl⟩ 0 rfl rfl rfl hl.1 rfl (Nat.le_of_ble_eq_true rfl) d_Mod_create_60) hD hS (fun H locs hP hD hS => ?_)
        refine lv_if_ge (tgt := 70) hx hb d_Mod_create_63 (by decide) (fun hc => ?_) (fun hc => ?_)
        · have h := if_t hc h
          refine lv_iconst (v := 0) hx hb d_Mod_create_70 (by decide) ?_
          exact v_Mod_create_71 X  hP hD hS (lv_sub hl [1, 2, 3, 4, 0] rfl) h
        · have h := if_f hc h
          exact v_Mod_create_66 X  hP hD hS (lv_sub hl [1, 2, 3, 4, 0] rfl) h
set_option maxHeartbeats 4000000 in
set_option maxRecDepth 100000 in
theorem v_Mod_create_27 {p : Program} {l : Launch} {e : Env} {s : State} {m : MethodId} {args : Array Value} {below : List Frame} {meth : Method} {c : Code} {D : va_G} {ad : Nat → Nat} {ca : Nat → ClassId} {A : Nat → Prop} {FU : Nat} {q : Int32 × St} (X : FX p s m meth c prog_12_method_31_code 7 (some .int) "FlashFilesModel" D (tyM ca) A) {y1 : Int32} {y2 : Int32} {y3 : Int32} {g : St} {H : Heap} {locs : List Loc} {ls : Array Slot} (hP : va_P D cls (wM ad ca g) H) (hD : va_D A (wM ad ca g)) (hS : va_S A s.heap H locs) (hl : lv_has ls 7 [(0, .ref (ad 0)), (1, .int y1), (2, .int y2), (3, .int y3)]) (h : Mod_create_b27 FU y1 y2 y3 g = some q) : W p l e (rmN 6) s m args below meth c H locs 0 0 (MQ below (fxQi D (tyM ca) A (wM ad ca q.2) q.1) args s 0 0 A) (F0 m 27 ls []) := by
  have hx := X.1
  have hb := X.2.1
  unfold Mod_create_b27 at h
  refine lv_iconst (v := 1) hx hb d_Mod_create_27 (by decide) ?_
  refine lv_goto (tgt := 32) hx hb d_Mod_create_28 (by decide) ?_
  exact v_Mod_create_32 X  hP hD hS (lv_sub hl [0, 1, 2, 3] rfl) h
set_option maxHeartbeats 4000000 in
set_option maxRecDepth 100000 in
theorem m_Mod_create {l : Launch} {D : va_G} {ad : Nat → Nat} {ca : Nat → ClassId} {FU : Nat} {x1 : Int32} {x2 : Int32} {x3 : Int32} {g : St} {q : Int32 × St} (h : Mod_create FU x1 x2 x3 g = some q) : CI l ⟨"FlashFilesModel", "create", "(III)I"⟩ prog_12_method_31_code 7 6 (some .int) D (tyM ca) (wM ad ca g) [.ref (ad 0), .int x1, .int x2, .int x3] q.1 (wM ad ca q.2) := by
  intro sz
  refine Met.fx (Qc := fun A => fxQi D (tyM ca) A (wM ad ca q.2) q.1) (by decide) (Nat.le_of_ble_eq_true rfl) ?_
  intro p e s m below meth c A ls X hP hD hl
  have hl : lv_has ls 7 [(0, .ref (ad 0)), (1, .int x1), (2, .int x2), (3, .int x3)] := hl
  have hS : va_S A s.heap s.heap [] := va_S.rf
  have hx := X.1
  have hb := X.2.1
  unfold Mod_create at h
  refine lv_aload_n hx hb d_Mod_create_0 rfl (lv_at hl 0 rfl) ?_
  obtain ⟨p14, e1, h⟩ := bd_some h
  refine fx_i X (fx_runV (As := []) X (m_Mod_isOff e1 _) hP hD kv_Mod_169 ⟨Nat.le_of_ble_eq_true rfl, Nat.le_of_ble_eq_true rfl⟩ 0 rfl rfl rfl hl.1 rfl (Nat.le_of_ble_eq_true rfl) d_Mod_create_1) hD hS (fun H locs hP hD hS => ?_)
  refine lv_if_eq (tgt := 9) hx hb d_Mod_create_4 (by decide) (fun hc => ?_) (fun hc => ?_)
  · have h := if_t hc h
    refine lv_aload_n hx hb d_Mod_create_9 rfl (lv_at hl 0 rfl) ?_
    refine lv_iload_n hx hb d_Mod_create_10 rfl (lv_at hl 1 rfl) ?_
    refine lv_iconst (v := 2) hx hb d_Mod_create_11 (by decide) ?_
    obtain ⟨v15, e1, h⟩ := bd_some h
    refine fx_i X (fx_runV (As := [.int x1, .int (2 : Int32)]) X (m_Mod_is e1 _) hP hD kv_Mod_172 ⟨Nat.le_of_ble_eq_true rfl, Nat.le_of_ble_eq_true rfl⟩ 0 rfl rfl rfl hl.1 rfl (Nat.le_of_ble_eq_true rfl) d_Mod_create_12) hD hS (fun H locs hP hD hS => ?_)
    refine lv_if_eq (tgt := 27) hx hb d_Mod_create_15 (by decide) (fun hc => ?_) (fun hc => ?_)
    · have h := if_t hc h
      exact v_Mod_create_27 X  hP hD hS (lv_sub hl [0, 1, 2, 3] rfl) h
    · have h := if_f hc h
      refine lv_aload_n hx hb d_Mod_create_18 rfl (lv_at hl 0 rfl) ?_
      refine lv_iconst (v := 0) hx hb d_Mod_create_19 (by decide) ?_
      refine lv_iload_n hx hb d_Mod_create_20 rfl (lv_at hl 2 rfl) ?_
      obtain ⟨v16, e1, h⟩ := bd_some h
      refine fx_i X (fx_runV (As := [.int (0 : Int32), .int x2]) X (m_Mod_isName e1 _) hP hD kv_Mod_176 ⟨Nat.le_of_ble_eq_true rfl, Nat.le_of_ble_eq_true rfl⟩ 0 rfl rfl rfl hl.1 rfl (Nat.le_of_ble_eq_true rfl) d_Mod_create_21) hD hS (fun H locs hP hD hS => ?_)
      refine lv_if_ne (tgt := 31) hx hb d_Mod_create_24 (by decide) (fun hc => ?_) (fun hc => ?_)
      · have h := if_f hc h
        refine lv_iconst (v := 0) hx hb d_Mod_create_31 (by decide) ?_
        exact v_Mod_create_32 X  hP hD hS (lv_sub hl [0, 1, 2, 3] rfl) h
      · have h := if_t hc h
        exact v_Mod_create_27 X  hP hD hS (lv_sub hl [0, 1, 2, 3] rfl) h
  · have h := if_f hc h
    refine lv_iconst (v := 0) hx hb d_Mod_create_7 (by decide) ?_
    cases h
    exact fx_iret X hP hD hS d_Mod_create_8
theorem d_Mod_make_0 : decode prog_12_method_32_code 0 = .ok (.aload_n 0, 1) := by decide +kernel
theorem d_Mod_make_1 : decode prog_12_method_32_code 1 = .ok (.iload_n 1, 1) := by decide +kernel
theorem d_Mod_make_2 : decode prog_12_method_32_code 2 = .ok (.iload_n 2, 1) := by decide +kernel
theorem d_Mod_make_3 : decode prog_12_method_32_code 3 = .ok (.iconst 1, 1) := by decide +kernel
theorem d_Mod_make_4 : decode prog_12_method_32_code 4 = .ok (.invokevirtual 194, 3) := by decide +kernel
theorem d_Mod_make_7 : decode prog_12_method_32_code 7 = .ok (.ireturn, 1) := by decide +kernel
set_option maxHeartbeats 4000000 in
set_option maxRecDepth 100000 in
theorem m_Mod_make {l : Launch} {D : va_G} {ad : Nat → Nat} {ca : Nat → ClassId} {FU : Nat} {x1 : Int32} {x2 : Int32} {g : St} {q : Int32 × St} (h : Mod_make FU x1 x2 g = some q) : CI l ⟨"FlashFilesModel", "make", "(II)I"⟩ prog_12_method_32_code 3 7 (some .int) D (tyM ca) (wM ad ca g) [.ref (ad 0), .int x1, .int x2] q.1 (wM ad ca q.2) := by
  intro sz
  refine Met.fx (Qc := fun A => fxQi D (tyM ca) A (wM ad ca q.2) q.1) (by decide) (Nat.le_of_ble_eq_true rfl) ?_
  intro p e s m below meth c A ls X hP hD hl
  have hl : lv_has ls 3 [(0, .ref (ad 0)), (1, .int x1), (2, .int x2)] := hl
  have hS : va_S A s.heap s.heap [] := va_S.rf
  have hx := X.1
  have hb := X.2.1
  unfold Mod_make at h
  refine lv_aload_n hx hb d_Mod_make_0 rfl (lv_at hl 0 rfl) ?_
  refine lv_iload_n hx hb d_Mod_make_1 rfl (lv_at hl 1 rfl) ?_
  refine lv_iload_n hx hb d_Mod_make_2 rfl (lv_at hl 2 rfl) ?_
  refine lv_iconst (v := 1) hx hb d_Mod_make_3 (by decide) ?_
  obtain ⟨p1, e1, h⟩ := bd_some h
  refine fx_i X (fx_runV (As := [.int x1, .int x2, .int (1 : Int32)]) X (m_Mod_create e1 _) hP hD kv_Mod_194 ⟨Nat.le_of_ble_eq_true rfl, Nat.le_of_ble_eq_true rfl⟩ 0 rfl rfl rfl hl.1 rfl (Nat.le_of_ble_eq_true rfl) d_Mod_make_4) hD hS (fun H locs hP hD hS => ?_)
  cases h
  exact fx_iret X hP hD hS d_Mod_make_7
theorem d_Mod_makeDirectory_0 : decode prog_12_method_33_code 0 = .ok (.aload_n 0, 1) := by decide +kernel
theorem d_Mod_makeDirectory_1 : decode prog_12_method_33_code 1 = .ok (.iload_n 1, 1) := by decide +kernel
theorem d_Mod_makeDirectory_2 : decode prog_12_method_33_code 2 = .ok (.iload_n 2, 1) := by decide +kernel
theorem d_Mod_makeDirectory_3 : decode prog_12_method_33_code 3 = .ok (.iconst 2, 1) := by decide +kernel
theorem d_Mod_makeDirectory_4 : decode prog_12_method_33_code 4 = .ok (.invokevirtual 194, 3) := by decide +kernel
theorem d_Mod_makeDirectory_7 : decode prog_12_method_33_code 7 = .ok (.ireturn, 1) := by decide +kernel
set_option maxHeartbeats 4000000 in
set_option maxRecDepth 100000 in
theorem m_Mod_makeDirectory {l : Launch} {D : va_G} {ad : Nat → Nat} {ca : Nat → ClassId} {FU : Nat} {x1 : Int32} {x2 : Int32} {g : St} {q : Int32 × St} (h : Mod_makeDirectory FU x1 x2 g = some q) : CI l ⟨"FlashFilesModel", "makeDirectory", "(II)I"⟩ prog_12_method_33_code 3 7 (some .int) D (tyM ca) (wM ad ca g) [.ref (ad 0), .int x1, .int x2] q.1 (wM ad ca q.2) := by
  intro sz
  refine Met.fx (Qc := fun A => fxQi D (tyM ca) A (wM ad ca q.2) q.1) (by decide) (Nat.le_of_ble_eq_true rfl) ?_
  intro p e s m below meth c A ls X hP hD hl
  have hl : lv_has ls 3 [(0, .ref (ad 0)), (1, .int x1), (2, .int x2)] := hl
  have hS : va_S A s.heap s.heap [] := va_S.rf
  have hx := X.1
  have hb := X.2.1
  unfold Mod_makeDirectory at h
  refine lv_aload_n hx hb d_Mod_makeDirectory_0 rfl (lv_at hl 0 rfl) ?_
  refine lv_iload_n hx hb d_Mod_makeDirectory_1 rfl (lv_at hl 1 rfl) ?_
  refine lv_iload_n hx hb d_Mod_makeDirectory_2 rfl (lv_at hl 2 rfl) ?_
  refine lv_iconst (v := 2) hx hb d_Mod_makeDirectory_3 (by decide) ?_
  obtain ⟨p1, e1, h⟩ := bd_some h
  refine fx_i X (fx_runV (As := [.int x1, .int x2, .int (2 : Int32)]) X (m_Mod_create e1 _) hP hD kv_Mod_194 ⟨Nat.le_of_ble_eq_true rfl, Nat.le_of_ble_eq_true rfl⟩ 0 rfl rfl rfl hl.1 rfl (Nat.le_of_ble_eq_true rfl) d_Mod_makeDirectory_4) hD hS (fun H locs hP hD hS => ?_)
  cases h
  exact fx_iret X hP hD hS d_Mod_makeDirectory_7
theorem d_Mod_link_0 : decode prog_12_method_34_code 0 = .ok (.aload_n 0, 1) := by decide +kernel
theorem d_Mod_link_1 : decode prog_12_method_34_code 1 = .ok (.invokevirtual 169, 3) := by decide +kernel
theorem d_Mod_link_4 : decode prog_12_method_34_code 4 = .ok (.ifCond .eq 5, 3) := by decide +kernel
theorem d_Mod_link_7 : decode prog_12_method_34_code 7 = .ok (.iconst 0, 1) := by decide +kernel
theorem d_Mod_link_8 : decode prog_12_method_34_code 8 = .ok (.ireturn, 1) := by decide +kernel
theorem d_Mod_link_9 : decode prog_12_method_34_code 9 = .ok (.aload_n 0, 1) := by decide +kernel
theorem d_Mod_link_10 : decode prog_12_method_34_code 10 = .ok (.iload_n 1, 1) := by decide +kernel
theorem d_Mod_link_11 : decode prog_12_method_34_code 11 = .ok (.iconst 1, 1) := by decide +kernel
theorem d_Mod_link_12 : decode prog_12_method_34_code 12 = .ok (.invokevirtual 172, 3) := by decide +kernel
theorem d_Mod_link_15 : decode prog_12_method_34_code 15 = .ok (.ifCond .eq 21, 3) := by decide +kernel
theorem d_Mod_link_18 : decode prog_12_method_34_code 18 = .ok (.aload_n 0, 1) := by decide +kernel
theorem d_Mod_link_19 : decode prog_12_method_34_code 19 = .ok (.iload_n 2, 1) := by decide +kernel
theorem d_Mod_link_20 : decode prog_12_method_34_code 20 = .ok (.iconst 2, 1) := by decide +kernel
theorem d_Mod_link_21 : decode prog_12_method_34_code 21 = .ok (.invokevirtual 172, 3) := by decide +kernel
theorem d_Mod_link_24 : decode prog_12_method_34_code 24 = .ok (.ifCond .eq 12, 3) := by decide +kernel
theorem d_Mod_link_27 : decode prog_12_method_34_code 27 = .ok (.aload_n 0, 1) := by decide +kernel
theorem d_Mod_link_28 : decode prog_12_method_34_code 28 = .ok (.iconst 0, 1) := by decide +kernel
theorem d_Mod_link_29 : decode prog_12_method_34_code 29 = .ok (.iload_n 3, 1) := by decide +kernel
theorem d_Mod_link_30 : decode prog_12_method_34_code 30 = .ok (.invokevirtual 176, 3) := by decide +kernel
theorem d_Mod_link_33 : decode prog_12_method_34_code 33 = .ok (.ifCond .ne 7, 3) := by decide +kernel
theorem d_Mod_link_36 : decode prog_12_method_34_code 36 = .ok (.iconst 1, 1) := by decide +kernel
theorem d_Mod_link_37 : decode prog_12_method_34_code 37 = .ok (.goto 4, 3) := by decide +kernel
theorem d_Mod_link_40 : decode prog_12_method_34_code 40 = .ok (.iconst 0, 1) := by decide +kernel
theorem d_Mod_link_41 : decode prog_12_method_34_code 41 = .ok (.istore 4, 2) := by decide +kernel
theorem d_Mod_link_43 : decode prog_12_method_34_code 43 = .ok (.iload 4, 2) := by decide +kernel
theorem d_Mod_link_45 : decode prog_12_method_34_code 45 = .ok (.ifCond .ne 23, 3) := by decide +kernel
theorem d_Mod_link_48 : decode prog_12_method_34_code 48 = .ok (.aload_n 0, 1) := by decide +kernel
theorem d_Mod_link_49 : decode prog_12_method_34_code 49 = .ok (.iload_n 2, 1) := by decide +kernel
theorem d_Mod_link_50 : decode prog_12_method_34_code 50 = .ok (.iconst 0, 1) := by decide +kernel
theorem d_Mod_link_51 : decode prog_12_method_34_code 51 = .ok (.iload_n 3, 1) := by decide +kernel
theorem d_Mod_link_52 : decode prog_12_method_34_code 52 = .ok (.invokevirtual 179, 3) := by decide +kernel
theorem d_Mod_link_55 : decode prog_12_method_34_code 55 = .ok (.ifCond .ge 13, 3) := by decide +kernel
theorem d_Mod_link_58 : decode prog_12_method_34_code 58 = .ok (.aload_n 0, 1) := by decide +kernel
theorem d_Mod_link_59 : decode prog_12_method_34_code 59 = .ok (.iload_n 2, 1) := by decide +kernel
theorem d_Mod_link_60 : decode prog_12_method_34_code 60 = .ok (.invokevirtual 97, 3) := by decide +kernel
theorem d_Mod_link_63 : decode prog_12_method_34_code 63 = .ok (.bipush 48, 2) := by decide +kernel
theorem d_Mod_link_65 : decode prog_12_method_34_code 65 = .ok (.if_icmp .ne 7, 3) := by decide +kernel
theorem d_Mod_link_68 : decode prog_12_method_34_code 68 = .ok (.iconst 1, 1) := by decide +kernel
theorem d_Mod_link_69 : decode prog_12_method_34_code 69 = .ok (.goto 4, 3) := by decide +kernel
theorem d_Mod_link_72 : decode prog_12_method_34_code 72 = .ok (.iconst 0, 1) := by decide +kernel
theorem d_Mod_link_73 : decode prog_12_method_34_code 73 = .ok (.istore 5, 2) := by decide +kernel
theorem d_Mod_link_75 : decode prog_12_method_34_code 75 = .ok (.aload_n 0, 1) := by decide +kernel
theorem d_Mod_link_76 : decode prog_12_method_34_code 76 = .ok (.invokevirtual 185, 3) := by decide +kernel
theorem d_Mod_link_79 : decode prog_12_method_34_code 79 = .ok (.aload_n 0, 1) := by decide +kernel
theorem d_Mod_link_80 : decode prog_12_method_34_code 80 = .ok (.iload 4, 2) := by decide +kernel
theorem d_Mod_link_82 : decode prog_12_method_34_code 82 = .ok (.iload 5, 2) := by decide +kernel
theorem d_Mod_link_84 : decode prog_12_method_34_code 84 = .ok (.invokevirtual 148, 3) := by decide +kernel
theorem d_Mod_link_87 : decode prog_12_method_34_code 87 = .ok (.ifCond .ne 11, 3) := by decide +kernel
theorem d_Mod_link_90 : decode prog_12_method_34_code 90 = .ok (.aload_n 0, 1) := by decide +kernel
theorem d_Mod_link_91 : decode prog_12_method_34_code 91 = .ok (.iconst 4, 1) := by decide +kernel
theorem d_Mod_link_92 : decode prog_12_method_34_code 92 = .ok (.invokevirtual 188, 3) := by decide +kernel
theorem d_Mod_link_95 : decode prog_12_method_34_code 95 = .ok (.ifCond .eq 5, 3) := by decide +kernel
theorem d_Mod_link_98 : decode prog_12_method_34_code 98 = .ok (.iconst 0, 1) := by decide +kernel
theorem d_Mod_link_99 : decode prog_12_method_34_code 99 = .ok (.ireturn, 1) := by decide +kernel
theorem d_Mod_link_100 : decode prog_12_method_34_code 100 = .ok (.aload_n 0, 1) := by decide +kernel
theorem d_Mod_link_101 : decode prog_12_method_34_code 101 = .ok (.getfield 27, 3) := by decide +kernel
theorem d_Mod_link_104 : decode prog_12_method_34_code 104 = .ok (.iload_n 1, 1) := by decide +kernel
theorem d_Mod_link_105 : decode prog_12_method_34_code 105 = .ok (.dup2, 1) := by decide +kernel
theorem d_Mod_link_106 : decode prog_12_method_34_code 106 = .ok (.iaload, 1) := by decide +kernel
theorem d_Mod_link_107 : decode prog_12_method_34_code 107 = .ok (.iconst 1, 1) := by decide +kernel
theorem d_Mod_link_108 : decode prog_12_method_34_code 108 = .ok (.iadd, 1) := by decide +kernel
theorem d_Mod_link_109 : decode prog_12_method_34_code 109 = .ok (.iastore, 1) := by decide +kernel
theorem d_Mod_link_110 : decode prog_12_method_34_code 110 = .ok (.aload_n 0, 1) := by decide +kernel
theorem d_Mod_link_111 : decode prog_12_method_34_code 111 = .ok (.getfield 37, 3) := by decide +kernel
theorem d_Mod_link_114 : decode prog_12_method_34_code 114 = .ok (.iload_n 1, 1) := by decide +kernel
theorem d_Mod_link_115 : decode prog_12_method_34_code 115 = .ok (.iconst 1, 1) := by decide +kernel
theorem d_Mod_link_116 : decode prog_12_method_34_code 116 = .ok (.bastore, 1) := by decide +kernel
theorem d_Mod_link_117 : decode prog_12_method_34_code 117 = .ok (.aload_n 0, 1) := by decide +kernel
theorem d_Mod_link_118 : decode prog_12_method_34_code 118 = .ok (.iload_n 2, 1) := by decide +kernel
theorem d_Mod_link_119 : decode prog_12_method_34_code 119 = .ok (.iload_n 3, 1) := by decide +kernel
theorem d_Mod_link_120 : decode prog_12_method_34_code 120 = .ok (.iload_n 1, 1) := by decide +kernel
theorem d_Mod_link_121 : decode prog_12_method_34_code 121 = .ok (.invokevirtual 191, 3) := by decide +kernel
theorem d_Mod_link_124 : decode prog_12_method_34_code 124 = .ok (.aload_n 0, 1) := by decide +kernel
theorem d_Mod_link_125 : decode prog_12_method_34_code 125 = .ok (.getfield 27, 3) := by decide +kernel
theorem d_Mod_link_128 : decode prog_12_method_34_code 128 = .ok (.iload_n 1, 1) := by decide +kernel
theorem d_Mod_link_129 : decode prog_12_method_34_code 129 = .ok (.iaload, 1) := by decide +kernel
theorem d_Mod_link_130 : decode prog_12_method_34_code 130 = .ok (.ireturn, 1) := by decide +kernel
set_option maxHeartbeats 4000000 in
set_option maxRecDepth 100000 in
theorem v_Mod_link_73 {p : Program} {l : Launch} {e : Env} {s : State} {m : MethodId} {args : Array Value} {below : List Frame} {meth : Method} {c : Code} {D : va_G} {ad : Nat → Nat} {ca : Nat → ClassId} {A : Nat → Prop} {FU : Nat} {q : Int32 × St} (X : FX p s m meth c prog_12_method_34_code 6 (some .int) "FlashFilesModel" D (tyM ca) A) {y1 : Int32} {y2 : Int32} {y3 : Int32} {y4 : Int32} {z0 : Int32} {g : St} {H : Heap} {locs : List Loc} {ls : Array Slot} (hP : va_P D cls (wM ad ca g) H) (hD : va_D A (wM ad ca g)) (hS : va_S A s.heap H locs) (hl : lv_has ls 6 [(0, .ref (ad 0)), (1, .int y1), (2, .int y2), (3, .int y3), (4, .int y4)]) (h : Mod_link_b73 FU y1 y2 y3 y4 z0 g = some q) : W p l e (rmN 6) s m args below meth c H locs 0 0 (MQ below (fxQi D (tyM ca) A (wM ad ca q.2) q.1) args s 0 0 A) (F0 m 73 ls [.int z0]) := by
  have hx := X.1
  have hb := X.2.1
  unfold Mod_link_b73 at h
  refine lv_istore hx hb d_Mod_link_73 hl (by decide) rfl (fun ls hl => ?_)
  have hl : lv_has ls 6 [(5, .int z0), (0, .ref (ad 0)), (1, .int y1), (2, .int y2), (3, .int y3), (4, .int y4)] := hl
  refine lv_aload_n hx hb d_Mod_link_75 rfl (lv_at hl 1 rfl) ?_
  obtain ⟨p1, e1, h⟩ := bd_some h
  refine fx_v X (fx_runV (As := []) X (m_Mod_done e1 _) hP hD kv_Mod_185 ⟨Nat.le_of_ble_eq_true rfl, Nat.le_of_ble_eq_true rfl⟩ 0 rfl rfl rfl hl.1 rfl (Nat.le_of_ble_eq_true rfl) d_Mod_link_76) hD hS (fun H locs hP hD hS => ?_)
  refine lv_aload_n hx hb d_Mod_link_79 rfl (lv_at hl 1 rfl) ?_
  refine lv_iload hx hb d_Mod_link_80 (lv_at hl 5 rfl) ?_
  refine lv_iload hx hb d_Mod_link_82 (lv_at hl 0 rfl) ?_
  obtain ⟨p2, e1, h⟩ := bd_some h
  refine fx_i X (fx_runV (As := [.int y4, .int z0]) X (m_Mod_throwing e1 _) hP hD kv_Mod_148 ⟨Nat.le_of_ble_eq_true rfl, Nat.le_of_ble_eq_true rfl⟩ 0 rfl rfl rfl hl.1 rfl (Nat.le_of_ble_eq_true rfl) d_Mod_link_84) hD hS (fun H locs hP hD hS => ?_)
  refine lv_if_ne (tgt := 98) hx hb d_Mod_link_87 (by decide) (fun hc => ?_) (fun hc => ?_)
  · have h := if_f hc h
    refine lv_iconst (v := 0) hx hb d_Mod_link_98 (by decide) ?_
    cases h
    exact fx_iret X hP hD hS d_Mod_link_99
  · have h := if_t hc h
    refine lv_aload_n hx hb d_Mod_link_90 rfl (lv_at hl 1 rfl) ?_
    refine lv_iconst (v := 4) hx hb d_Mod_link_91 (by decide) ?_
    obtain ⟨p3, e1, h⟩ := bd_some h
    refine fx_i X (fx_runV (As := [.int (4 : Int32)]) X (m_Mod_stops e1 _) hP hD kv_Mod_188 ⟨Nat.le_of_ble_eq_true rfl, Nat.le_of_ble_eq_true rfl⟩ 0 rfl rfl rfl hl.1 rfl (Nat.le_of_ble_eq_true rfl) d_Mod_link_92) hD hS (fun H locs hP hD hS => ?_)
    refine lv_if_eq (tgt := 100) hx hb d_Mod_link_95 (by decide) (fun hc => ?_) (fun hc => ?_)
    · have h := if_t hc h
      refine lv_aload_n hx hb d_Mod_link_100 rfl (lv_at hl 1 rfl) ?_
      refine gM_mod_links X hP d_Mod_link_101 ?_
      refine lv_iload_n hx hb d_Mod_link_104 rfl (lv_at hl 2 rfl) ?_
      refine lv_dup2_11 hx hb d_Mod_link_105 rfl rfl ?_
      obtain ⟨v4, e1, h⟩ := bd_some h
      refine rM_4 X hP e1 d_Mod_link_106 ?_
      refine lv_iconst (v := 1) hx hb d_Mod_link_107 (by decide) ?_
      refine lv_iadd hx hb d_Mod_link_108 ?_
      obtain ⟨g5, e1, h⟩ := bd_some h
      refine sM_4 X hP hD hS e1 d_Mod_link_109 (fun H locs hP hD hS => ?_)
      refine lv_aload_n hx hb d_Mod_link_110 rfl (lv_at hl 1 rfl) ?_
      refine gM_mod_renamed X hP d_Mod_link_111 ?_
      refine lv_iload_n hx hb d_Mod_link_114 rfl (lv_at hl 2 rfl) ?_
      refine lv_iconst (v := 1) hx hb d_Mod_link_115 (by decide) ?_
      obtain ⟨g6, e1, h⟩ := bd_some h
      refine sM_7 X hP hD hS e1 d_Mod_link_116 (fun H locs hP hD hS => ?_)
      refine lv_aload_n hx hb d_Mod_link_117 rfl (lv_at hl 1 rfl) ?_
      refine lv_iload_n hx hb d_Mod_link_118 rfl (lv_at hl 3 rfl) ?_
      refine lv_iload_n hx hb d_Mod_link_119 rfl (lv_at hl 4 rfl) ?_
      refine lv_iload_n hx hb d_Mod_link_120 rfl (lv_at hl 2 rfl) ?_
      obtain ⟨p7, e1, h⟩ := bd_some h
      refine fx_v X (fx_runV (As := [.int y2, .int y3, .int y1]) X (m_Mod_addEntry e1 _) hP hD kv_Mod_191 ⟨Nat.le_of_ble_eq_true rfl, Nat.le_of_ble_eq_true rfl⟩ 0 rfl rfl rfl hl.1 rfl (Nat.le_of_ble_eq_true rfl) d_Mod_link_121) hD hS (fun H locs hP hD hS => ?_)
      refine lv_aload_n hx hb d_Mod_link_124 rfl (lv_at hl 1 rfl) ?_
      refine gM_mod_links X hP d_Mod_link_125 ?_
      refine lv_iload_n hx hb d_Mod_link_128 rfl (lv_at hl 2 rfl) ?_
      obtain ⟨v8, e1, h⟩ := bd_some h
      refine rM_4 X hP e1 d_Mod_link_129 ?_
      cases h
      exact fx_iret X hP hD hS d_Mod_link_130
    · have h := if_f hc h
      refine lv_iconst (v := 0) hx hb d_Mod_link_98 (by decide) ?_
      cases h
      exact fx_iret X hP hD hS d_Mod_link_99
set_option maxHeartbeats 4000000 in
set_option maxRecDepth 100000 in
theorem v_Mod_link_68 {p : Program} {l : Launch} {e : Env} {s : State} {m : MethodId} {args : Array Value} {below : List Frame} {meth : Method} {c : Code} {D : va_G} {ad : Nat → Nat} {ca : Nat → ClassId} {A : Nat → Prop} {FU : Nat} {q : Int32 × St} (X : FX p s m meth c prog_12_method_34_code 6 (some .int) "FlashFilesModel" D (tyM ca) A) {y1 : Int32} {y2 : Int32} {y3 : Int32} {y4 : Int32} {g : St} {H : Heap} {locs : List Loc} {ls : Array Slot} (hP : va_P D cls (wM ad ca g) H) (hD : va_D A (wM ad ca g)) (hS : va_S A s.heap H locs) (hl : lv_has ls 6 [(0, .ref (ad 0)), (1, .int y1), (2, .int y2), (3, .int y3), (4, .int y4)]) (h : Mod_link_b68 FU y1 y2 y3 y4 g = some q) : W p l e (rmN 6) s m args below meth c H locs 0 0 (MQ below (fxQi D (tyM ca) A (wM ad ca q.2) q.1) args s 0 0 A) (F0 m 68 ls []) := by
  have hx := X.1
  have hb := X.2.1
  unfold Mod_link_b68 at h
  refine lv_iconst (v := 1) hx hb d_Mod_link_68 (by decide) ?_
  refine lv_goto (tgt := 73) hx hb d_Mod_link_69 (by decide) ?_
  exact v_Mod_link_73 X  hP hD hS (lv_sub hl [0, 1, 2, 3, 4] rfl) h
set_option maxHeartbeats 4000000 in
set_option maxRecDepth 100000 in
theorem v_Mod_link_41 {p : Program} {l : Launch} {e : Env} {s : State} {m : MethodId} {args : Array Value} {below : List Frame} {meth : Method} {c : Code} {D : va_G} {ad : Nat → Nat} {ca : Nat → ClassId} {A : Nat → Prop} {FU : Nat} {q : Int32 × St} (X : FX p s m meth c prog_12_method_34_code 6 (some .int) "FlashFilesModel" D (tyM ca) A) {y1 : Int32} {y2 : Int32} {y3 : Int32} {z0 : Int32} {g : St} {H : Heap} {locs : List Loc} {ls : Array Slot} (hP : va_P D cls (wM ad ca g) H) (hD : va_D A (wM ad ca g)) (hS : va_S A s.heap H locs) (hl : lv_has ls 6 [(0, .ref (ad 0)), (1, .int y1), (2, .int y2), (3, .int y3)]) (h : Mod_link_b41 FU y1 y2 y3 z0 g = some q) : W p l e (rmN 6) s m args below meth c H locs 0 0 (MQ below (fxQi D (tyM ca) A (wM ad ca q.2) q.1) args s 0 0 A) (F0 m 41 ls [.int z0]) := by
  have hx := X.1
  have hb := X.2.1
  unfold Mod_link_b41 at h
  refine lv_istore hx hb d_Mod_link_41 hl (by decide) rfl (fun ls hl => ?_)
  have hl : lv_has ls 6 [(4, .int z0), (0, .ref (ad 0)), (1, .int y1), (2, .int y2), (3, .int y3)] := hl
  refine lv_iload hx hb d_Mod_link_43 (lv_at hl 0 rfl) ?_
  refine lv_if_ne (tgt := 68) hx hb d_Mod_link_45 (by decide) (fun hc => ?_) (fun hc => ?_)
  · have h := if_f hc h
    exact v_Mod_link_68 X  hP hD hS (lv_sub hl [1, 2, 3, 4, 0] rfl) h
  · have h := if_t hc h
    refine lv_aload_n hx hb d_Mod_link_48 rfl (lv_at hl 1 rfl) ?_
    refine lv_iload_n hx hb d_Mod_link_49 rfl (lv_at hl 3 rfl) ?_
    refine lv_iconst (v := 0) hx hb d_Mod_link_50 (by decide) ?_
    refine lv_iload_n hx hb d_Mod_link_51 rfl (lv_at hl 4 rfl) ?_
    obtain ⟨v9, e1, h⟩ := bd_some h
    refine fx_i X (fx_runV (As := [.int y2, .int (0 : Int32), .int y3]) X (m_Mod_seek e1 _) hP hD kv_Mod_179 ⟨Nat.le_of_ble_eq_true rfl, Nat.le_of_ble_eq_true rfl⟩ 0 rfl rfl rfl hl.1 rfl (Nat.le_of_ble_eq_true rfl) d_Mod_link_52) hD hS (fun H locs hP hD hS => ?_)
    refine lv_if_ge (tgt := 68) hx hb d_Mod_link_55 (by decide) (fun hc => ?_) (fun hc => ?_)
    · have h := if_t hc h
      exact v_Mod_link_68 X  hP hD hS (lv_sub hl [1, 2, 3, 4, 0] rfl) h
    · have h := if_f hc h
      refine lv_aload_n hx hb d_Mod_link_58 rfl (lv_at hl 1 rfl) ?_
      refine lv_iload_n hx hb d_Mod_link_59 rfl (lv_at hl 3 rfl) ?_
      obtain ⟨v10, e1, h⟩ := bd_some h
      refine fx_i X (fx_runV (As := [.int y2]) X (m_Mod_namesOf e1 _) hP hD kv_Mod_97 ⟨Nat.le_of_ble_eq_true rfl, Nat.le_of_ble_eq_true rfl⟩ 0 rfl rfl rfl hl.1 rfl (Nat.le_of_ble_eq_true rfl) d_Mod_link_60) hD hS (fun H locs hP hD hS => ?_)
      refine lv_bipush (v := 48) hx hb d_Mod_link_63 (by decide) ?_
      refine lv_icmp_ne (tgt := 72) hx hb d_Mod_link_65 (by decide) (fun hc => ?_) (fun hc => ?_)
      · have h := if_f hc h
        refine lv_iconst (v := 0) hx hb d_Mod_link_72 (by decide) ?_
        exact v_Mod_link_73 X  hP hD hS (lv_sub hl [1, 2, 3, 4, 0] rfl) h
      · have h := if_t hc h
        exact v_Mod_link_68 X  hP hD hS (lv_sub hl [1, 2, 3, 4, 0] rfl) h
set_option maxHeartbeats 4000000 in
set_option maxRecDepth 100000 in
theorem v_Mod_link_36 {p : Program} {l : Launch} {e : Env} {s : State} {m : MethodId} {args : Array Value} {below : List Frame} {meth : Method} {c : Code} {D : va_G} {ad : Nat → Nat} {ca : Nat → ClassId} {A : Nat → Prop} {FU : Nat} {q : Int32 × St} (X : FX p s m meth c prog_12_method_34_code 6 (some .int) "FlashFilesModel" D (tyM ca) A) {y1 : Int32} {y2 : Int32} {y3 : Int32} {g : St} {H : Heap} {locs : List Loc} {ls : Array Slot} (hP : va_P D cls (wM ad ca g) H) (hD : va_D A (wM ad ca g)) (hS : va_S A s.heap H locs) (hl : lv_has ls 6 [(0, .ref (ad 0)), (1, .int y1), (2, .int y2), (3, .int y3)]) (h : Mod_link_b36 FU y1 y2 y3 g = some q) : W p l e (rmN 6) s m args below meth c H locs 0 0 (MQ below (fxQi D (tyM ca) A (wM ad ca q.2) q.1) args s 0 0 A) (F0 m 36 ls []) := by
  have hx := X.1
  have hb := X.2.1
  unfold Mod_link_b36 at h
  refine lv_iconst (v := 1) hx hb d_Mod_link_36 (by decide) ?_
  refine lv_goto (tgt := 41) hx hb d_Mod_link_37 (by decide) ?_
  exact v_Mod_link_41 X  hP hD hS (lv_sub hl [0, 1, 2, 3] rfl) h
set_option maxHeartbeats 4000000 in
set_option maxRecDepth 100000 in
theorem m_Mod_link {l : Launch} {D : va_G} {ad : Nat → Nat} {ca : Nat → ClassId} {FU : Nat} {x1 : Int32} {x2 : Int32} {x3 : Int32} {g : St} {q : Int32 × St} (h : Mod_link FU x1 x2 x3 g = some q) : CI l ⟨"FlashFilesModel", "link", "(III)I"⟩ prog_12_method_34_code 6 6 (some .int) D (tyM ca) (wM ad ca g) [.ref (ad 0), .int x1, .int x2, .int x3] q.1 (wM ad ca q.2) := by
  intro sz
  refine Met.fx (Qc := fun A => fxQi D (tyM ca) A (wM ad ca q.2) q.1) (by decide) (Nat.le_of_ble_eq_true rfl) ?_
  intro p e s m below meth c A ls X hP hD hl
  have hl : lv_has ls 6 [(0, .ref (ad 0)), (1, .int x1), (2, .int x2), (3, .int x3)] := hl
  have hS : va_S A s.heap s.heap [] := va_S.rf
  have hx := X.1
  have hb := X.2.1
  unfold Mod_link at h
  refine lv_aload_n hx hb d_Mod_link_0 rfl (lv_at hl 0 rfl) ?_
  obtain ⟨p11, e1, h⟩ := bd_some h
  refine fx_i X (fx_runV (As := []) X (m_Mod_isOff e1 _) hP hD kv_Mod_169 ⟨Nat.le_of_ble_eq_true rfl, Nat.le_of_ble_eq_true rfl⟩ 0 rfl rfl rfl hl.1 rfl (Nat.le_of_ble_eq_true rfl) d_Mod_link_1) hD hS (fun H locs hP hD hS => ?_)
  refine lv_if_eq (tgt := 9) hx hb d_Mod_link_4 (by decide) (fun hc => ?_) (fun hc => ?_)
  · have h := if_t hc h
    refine lv_aload_n hx hb d_Mod_link_9 rfl (lv_at hl 0 rfl) ?_
    refine lv_iload_n hx hb d_Mod_link_10 rfl (lv_at hl 1 rfl) ?_
    refine lv_iconst (v := 1) hx hb d_Mod_link_11 (by decide) ?_
    obtain ⟨v12, e1, h⟩ := bd_some h
    refine fx_i X (fx_runV (As := [.int x1, .int (1 : Int32)]) X (m_Mod_is e1 _) hP hD kv_Mod_172 ⟨Nat.le_of_ble_eq_true rfl, Nat.le_of_ble_eq_true rfl⟩ 0 rfl rfl rfl hl.1 rfl (Nat.le_of_ble_eq_true rfl) d_Mod_link_12) hD hS (fun H locs hP hD hS => ?_)
    refine lv_if_eq (tgt := 36) hx hb d_Mod_link_15 (by decide) (fun hc => ?_) (fun hc => ?_)
    · have h := if_t hc h
      exact v_Mod_link_36 X  hP hD hS (lv_sub hl [0, 1, 2, 3] rfl) h
    · have h := if_f hc h
      refine lv_aload_n hx hb d_Mod_link_18 rfl (lv_at hl 0 rfl) ?_
      refine lv_iload_n hx hb d_Mod_link_19 rfl (lv_at hl 2 rfl) ?_
      refine lv_iconst (v := 2) hx hb d_Mod_link_20 (by decide) ?_
      obtain ⟨v13, e1, h⟩ := bd_some h
      refine fx_i X (fx_runV (As := [.int x2, .int (2 : Int32)]) X (m_Mod_is e1 _) hP hD kv_Mod_172 ⟨Nat.le_of_ble_eq_true rfl, Nat.le_of_ble_eq_true rfl⟩ 0 rfl rfl rfl hl.1 rfl (Nat.le_of_ble_eq_true rfl) d_Mod_link_21) hD hS (fun H locs hP hD hS => ?_)
      refine lv_if_eq (tgt := 36) hx hb d_Mod_link_24 (by decide) (fun hc => ?_) (fun hc => ?_)
      · have h := if_t hc h
        exact v_Mod_link_36 X  hP hD hS (lv_sub hl [0, 1, 2, 3] rfl) h
      · have h := if_f hc h
        refine lv_aload_n hx hb d_Mod_link_27 rfl (lv_at hl 0 rfl) ?_
        refine lv_iconst (v := 0) hx hb d_Mod_link_28 (by decide) ?_
        refine lv_iload_n hx hb d_Mod_link_29 rfl (lv_at hl 3 rfl) ?_
        obtain ⟨v14, e1, h⟩ := bd_some h
        refine fx_i X (fx_runV (As := [.int (0 : Int32), .int x3]) X (m_Mod_isName e1 _) hP hD kv_Mod_176 ⟨Nat.le_of_ble_eq_true rfl, Nat.le_of_ble_eq_true rfl⟩ 0 rfl rfl rfl hl.1 rfl (Nat.le_of_ble_eq_true rfl) d_Mod_link_30) hD hS (fun H locs hP hD hS => ?_)
        refine lv_if_ne (tgt := 40) hx hb d_Mod_link_33 (by decide) (fun hc => ?_) (fun hc => ?_)
        · have h := if_f hc h
          refine lv_iconst (v := 0) hx hb d_Mod_link_40 (by decide) ?_
          exact v_Mod_link_41 X  hP hD hS (lv_sub hl [0, 1, 2, 3] rfl) h
        · have h := if_t hc h
          exact v_Mod_link_36 X  hP hD hS (lv_sub hl [0, 1, 2, 3] rfl) h
  · have h := if_f hc h
    refine lv_iconst (v := 0) hx hb d_Mod_link_7 (by decide) ?_
    cases h
    exact fx_iret X hP hD hS d_Mod_link_8
theorem d_Mod_loosen_0 : decode prog_12_method_35_code 0 = .ok (.aload_n 0, 1) := by decide +kernel
theorem d_Mod_loosen_1 : decode prog_12_method_35_code 1 = .ok (.getfield 27, 3) := by decide +kernel
theorem d_Mod_loosen_4 : decode prog_12_method_35_code 4 = .ok (.iload_n 1, 1) := by decide +kernel
theorem d_Mod_loosen_5 : decode prog_12_method_35_code 5 = .ok (.dup2, 1) := by decide +kernel
theorem d_Mod_loosen_6 : decode prog_12_method_35_code 6 = .ok (.iaload, 1) := by decide +kernel
theorem d_Mod_loosen_7 : decode prog_12_method_35_code 7 = .ok (.iconst 1, 1) := by decide +kernel
theorem d_Mod_loosen_8 : decode prog_12_method_35_code 8 = .ok (.isub, 1) := by decide +kernel
theorem d_Mod_loosen_9 : decode prog_12_method_35_code 9 = .ok (.iastore, 1) := by decide +kernel
theorem d_Mod_loosen_10 : decode prog_12_method_35_code 10 = .ok (.aload_n 0, 1) := by decide +kernel
theorem d_Mod_loosen_11 : decode prog_12_method_35_code 11 = .ok (.getfield 37, 3) := by decide +kernel
theorem d_Mod_loosen_14 : decode prog_12_method_35_code 14 = .ok (.iload_n 1, 1) := by decide +kernel
theorem d_Mod_loosen_15 : decode prog_12_method_35_code 15 = .ok (.iconst 1, 1) := by decide +kernel
theorem d_Mod_loosen_16 : decode prog_12_method_35_code 16 = .ok (.bastore, 1) := by decide +kernel
theorem d_Mod_loosen_17 : decode prog_12_method_35_code 17 = .ok (.aload_n 0, 1) := by decide +kernel
theorem d_Mod_loosen_18 : decode prog_12_method_35_code 18 = .ok (.getfield 27, 3) := by decide +kernel
theorem d_Mod_loosen_21 : decode prog_12_method_35_code 21 = .ok (.iload_n 1, 1) := by decide +kernel
theorem d_Mod_loosen_22 : decode prog_12_method_35_code 22 = .ok (.iaload, 1) := by decide +kernel
theorem d_Mod_loosen_23 : decode prog_12_method_35_code 23 = .ok (.ifCond .ne 9, 3) := by decide +kernel
theorem d_Mod_loosen_26 : decode prog_12_method_35_code 26 = .ok (.aload_n 0, 1) := by decide +kernel
theorem d_Mod_loosen_27 : decode prog_12_method_35_code 27 = .ok (.iload_n 1, 1) := by decide +kernel
theorem d_Mod_loosen_28 : decode prog_12_method_35_code 28 = .ok (.iconst 0, 1) := by decide +kernel
theorem d_Mod_loosen_29 : decode prog_12_method_35_code 29 = .ok (.invokevirtual 119, 3) := by decide +kernel
theorem d_Mod_loosen_32 : decode prog_12_method_35_code 32 = .ok (.aload_n 0, 1) := by decide +kernel
theorem d_Mod_loosen_33 : decode prog_12_method_35_code 33 = .ok (.getfield 27, 3) := by decide +kernel
theorem d_Mod_loosen_36 : decode prog_12_method_35_code 36 = .ok (.iload_n 1, 1) := by decide +kernel
theorem d_Mod_loosen_37 : decode prog_12_method_35_code 37 = .ok (.iaload, 1) := by decide +kernel
theorem d_Mod_loosen_38 : decode prog_12_method_35_code 38 = .ok (.ireturn, 1) := by decide +kernel
set_option maxHeartbeats 4000000 in
set_option maxRecDepth 100000 in
theorem m_Mod_loosen {l : Launch} {D : va_G} {ad : Nat → Nat} {ca : Nat → ClassId} {FU : Nat} {x1 : Int32} {g : St} {q : Int32 × St} (h : Mod_loosen FU x1 g = some q) : CI l ⟨"FlashFilesModel", "loosen", "(I)I"⟩ prog_12_method_35_code 2 3 (some .int) D (tyM ca) (wM ad ca g) [.ref (ad 0), .int x1] q.1 (wM ad ca q.2) := by
  intro sz
  refine Met.fx (Qc := fun A => fxQi D (tyM ca) A (wM ad ca q.2) q.1) (by decide) (Nat.le_of_ble_eq_true rfl) ?_
  intro p e s m below meth c A ls X hP hD hl
  have hl : lv_has ls 2 [(0, .ref (ad 0)), (1, .int x1)] := hl
  have hS : va_S A s.heap s.heap [] := va_S.rf
  have hx := X.1
  have hb := X.2.1
  unfold Mod_loosen at h
  refine lv_aload_n hx hb d_Mod_loosen_0 rfl (lv_at hl 0 rfl) ?_
  refine gM_mod_links X hP d_Mod_loosen_1 ?_
  refine lv_iload_n hx hb d_Mod_loosen_4 rfl (lv_at hl 1 rfl) ?_
  refine lv_dup2_11 hx hb d_Mod_loosen_5 rfl rfl ?_
  obtain ⟨v1, e1, h⟩ := bd_some h
  refine rM_4 X hP e1 d_Mod_loosen_6 ?_
  refine lv_iconst (v := 1) hx hb d_Mod_loosen_7 (by decide) ?_
  refine lv_isub hx hb d_Mod_loosen_8 ?_
  obtain ⟨g2, e1, h⟩ := bd_some h
  refine sM_4 X hP hD hS e1 d_Mod_loosen_9 (fun H locs hP hD hS => ?_)
  refine lv_aload_n hx hb d_Mod_loosen_10 rfl (lv_at hl 0 rfl) ?_
  refine gM_mod_renamed X hP d_Mod_loosen_11 ?_
  refine lv_iload_n hx hb d_Mod_loosen_14 rfl (lv_at hl 1 rfl) ?_
  refine lv_iconst (v := 1) hx hb d_Mod_loosen_15 (by decide) ?_
  obtain ⟨g3, e1, h⟩ := bd_some h
  refine sM_7 X hP hD hS e1 d_Mod_loosen_16 (fun H locs hP hD hS => ?_)
  refine lv_aload_n hx hb d_Mod_loosen_17 rfl (lv_at hl 0 rfl) ?_
  refine gM_mod_links X hP d_Mod_loosen_18 ?_
  refine lv_iload_n hx hb d_Mod_loosen_21 rfl (lv_at hl 1 rfl) ?_
  obtain ⟨v4, e1, h⟩ := bd_some h
  refine rM_4 X hP e1 d_Mod_loosen_22 ?_
  refine lv_if_ne (tgt := 32) hx hb d_Mod_loosen_23 (by decide) (fun hc => ?_) (fun hc => ?_)
  · have h := if_f hc h
    refine lv_aload_n hx hb d_Mod_loosen_32 rfl (lv_at hl 0 rfl) ?_
    refine gM_mod_links X hP d_Mod_loosen_33 ?_
    refine lv_iload_n hx hb d_Mod_loosen_36 rfl (lv_at hl 1 rfl) ?_
    obtain ⟨v5, e1, h⟩ := bd_some h
    refine rM_4 X hP e1 d_Mod_loosen_37 ?_
    cases h
    exact fx_iret X hP hD hS d_Mod_loosen_38
  · have h := if_t hc h
    refine lv_aload_n hx hb d_Mod_loosen_26 rfl (lv_at hl 0 rfl) ?_
    refine lv_iload_n hx hb d_Mod_loosen_27 rfl (lv_at hl 1 rfl) ?_
    refine lv_iconst (v := 0) hx hb d_Mod_loosen_28 (by decide) ?_
    obtain ⟨p6, e1, h⟩ := bd_some h
    refine fx_v X (fx_runV (As := [.int x1, .int (0 : Int32)]) X (m_Mod_drop e1 _) hP hD kv_Mod_119 ⟨Nat.le_of_ble_eq_true rfl, Nat.le_of_ble_eq_true rfl⟩ 0 rfl rfl rfl hl.1 rfl (Nat.le_of_ble_eq_true rfl) d_Mod_loosen_29) hD hS (fun H locs hP hD hS => ?_)
    refine lv_aload_n hx hb d_Mod_loosen_32 rfl (lv_at hl 0 rfl) ?_
    refine gM_mod_links X hP d_Mod_loosen_33 ?_
    refine lv_iload_n hx hb d_Mod_loosen_36 rfl (lv_at hl 1 rfl) ?_
    obtain ⟨v7, e1, h⟩ := bd_some h
    refine rM_4 X hP e1 d_Mod_loosen_37 ?_
    cases h
    exact fx_iret X hP hD hS d_Mod_loosen_38
theorem d_Mod_unlink_0 : decode prog_12_method_36_code 0 = .ok (.aload_n 0, 1) := by decide +kernel
theorem d_Mod_unlink_1 : decode prog_12_method_36_code 1 = .ok (.invokevirtual 169, 3) := by decide +kernel
theorem d_Mod_unlink_4 : decode prog_12_method_36_code 4 = .ok (.ifCond .eq 5, 3) := by decide +kernel
theorem d_Mod_unlink_7 : decode prog_12_method_36_code 7 = .ok (.iconst 0, 1) := by decide +kernel
theorem d_Mod_unlink_8 : decode prog_12_method_36_code 8 = .ok (.ireturn, 1) := by decide +kernel
theorem d_Mod_unlink_9 : decode prog_12_method_36_code 9 = .ok (.aload_n 0, 1) := by decide +kernel
theorem d_Mod_unlink_10 : decode prog_12_method_36_code 10 = .ok (.iload_n 1, 1) := by decide +kernel
theorem d_Mod_unlink_11 : decode prog_12_method_36_code 11 = .ok (.iconst 2, 1) := by decide +kernel
theorem d_Mod_unlink_12 : decode prog_12_method_36_code 12 = .ok (.invokevirtual 172, 3) := by decide +kernel
theorem d_Mod_unlink_15 : decode prog_12_method_36_code 15 = .ok (.ifCond .eq 12, 3) := by decide +kernel
theorem d_Mod_unlink_18 : decode prog_12_method_36_code 18 = .ok (.aload_n 0, 1) := by decide +kernel
theorem d_Mod_unlink_19 : decode prog_12_method_36_code 19 = .ok (.iconst 0, 1) := by decide +kernel
theorem d_Mod_unlink_20 : decode prog_12_method_36_code 20 = .ok (.iload_n 2, 1) := by decide +kernel
theorem d_Mod_unlink_21 : decode prog_12_method_36_code 21 = .ok (.invokevirtual 176, 3) := by decide +kernel
theorem d_Mod_unlink_24 : decode prog_12_method_36_code 24 = .ok (.ifCond .ne 7, 3) := by decide +kernel
theorem d_Mod_unlink_27 : decode prog_12_method_36_code 27 = .ok (.iconst 1, 1) := by decide +kernel
theorem d_Mod_unlink_28 : decode prog_12_method_36_code 28 = .ok (.goto 4, 3) := by decide +kernel
theorem d_Mod_unlink_31 : decode prog_12_method_36_code 31 = .ok (.iconst 0, 1) := by decide +kernel
theorem d_Mod_unlink_32 : decode prog_12_method_36_code 32 = .ok (.istore_n 3, 1) := by decide +kernel
theorem d_Mod_unlink_33 : decode prog_12_method_36_code 33 = .ok (.iload_n 3, 1) := by decide +kernel
theorem d_Mod_unlink_34 : decode prog_12_method_36_code 34 = .ok (.ifCond .eq 7, 3) := by decide +kernel
theorem d_Mod_unlink_37 : decode prog_12_method_36_code 37 = .ok (.iconst (-1), 1) := by decide +kernel
theorem d_Mod_unlink_38 : decode prog_12_method_36_code 38 = .ok (.goto 10, 3) := by decide +kernel
theorem d_Mod_unlink_41 : decode prog_12_method_36_code 41 = .ok (.aload_n 0, 1) := by decide +kernel
theorem d_Mod_unlink_42 : decode prog_12_method_36_code 42 = .ok (.iload_n 1, 1) := by decide +kernel
theorem d_Mod_unlink_43 : decode prog_12_method_36_code 43 = .ok (.iconst 0, 1) := by decide +kernel
theorem d_Mod_unlink_44 : decode prog_12_method_36_code 44 = .ok (.iload_n 2, 1) := by decide +kernel
theorem d_Mod_unlink_45 : decode prog_12_method_36_code 45 = .ok (.invokevirtual 179, 3) := by decide +kernel
theorem d_Mod_unlink_48 : decode prog_12_method_36_code 48 = .ok (.istore 4, 2) := by decide +kernel
theorem d_Mod_unlink_50 : decode prog_12_method_36_code 50 = .ok (.aload_n 0, 1) := by decide +kernel
theorem d_Mod_unlink_51 : decode prog_12_method_36_code 51 = .ok (.invokevirtual 185, 3) := by decide +kernel
theorem d_Mod_unlink_54 : decode prog_12_method_36_code 54 = .ok (.aload_n 0, 1) := by decide +kernel
theorem d_Mod_unlink_55 : decode prog_12_method_36_code 55 = .ok (.iload_n 3, 1) := by decide +kernel
theorem d_Mod_unlink_56 : decode prog_12_method_36_code 56 = .ok (.iload 4, 2) := by decide +kernel
theorem d_Mod_unlink_58 : decode prog_12_method_36_code 58 = .ok (.ifCond .lt 19, 3) := by decide +kernel
theorem d_Mod_unlink_61 : decode prog_12_method_36_code 61 = .ok (.aload_n 0, 1) := by decide +kernel
theorem d_Mod_unlink_62 : decode prog_12_method_36_code 62 = .ok (.getfield 20, 3) := by decide +kernel
theorem d_Mod_unlink_65 : decode prog_12_method_36_code 65 = .ok (.aload_n 0, 1) := by decide +kernel
theorem d_Mod_unlink_66 : decode prog_12_method_36_code 66 = .ok (.getfield 54, 3) := by decide +kernel
theorem d_Mod_unlink_69 : decode prog_12_method_36_code 69 = .ok (.iload 4, 2) := by decide +kernel
theorem d_Mod_unlink_71 : decode prog_12_method_36_code 71 = .ok (.iaload, 1) := by decide +kernel
theorem d_Mod_unlink_72 : decode prog_12_method_36_code 72 = .ok (.iaload, 1) := by decide +kernel
theorem d_Mod_unlink_73 : decode prog_12_method_36_code 73 = .ok (.iconst 1, 1) := by decide +kernel
theorem d_Mod_unlink_74 : decode prog_12_method_36_code 74 = .ok (.if_icmp .eq 7, 3) := by decide +kernel
theorem d_Mod_unlink_77 : decode prog_12_method_36_code 77 = .ok (.iconst 1, 1) := by decide +kernel
theorem d_Mod_unlink_78 : decode prog_12_method_36_code 78 = .ok (.goto 4, 3) := by decide +kernel
theorem d_Mod_unlink_81 : decode prog_12_method_36_code 81 = .ok (.iconst 0, 1) := by decide +kernel
theorem d_Mod_unlink_82 : decode prog_12_method_36_code 82 = .ok (.invokevirtual 148, 3) := by decide +kernel
theorem d_Mod_unlink_85 : decode prog_12_method_36_code 85 = .ok (.ifCond .ne 11, 3) := by decide +kernel
theorem d_Mod_unlink_88 : decode prog_12_method_36_code 88 = .ok (.aload_n 0, 1) := by decide +kernel
theorem d_Mod_unlink_89 : decode prog_12_method_36_code 89 = .ok (.iconst 4, 1) := by decide +kernel
theorem d_Mod_unlink_90 : decode prog_12_method_36_code 90 = .ok (.invokevirtual 188, 3) := by decide +kernel
theorem d_Mod_unlink_93 : decode prog_12_method_36_code 93 = .ok (.ifCond .eq 5, 3) := by decide +kernel
theorem d_Mod_unlink_96 : decode prog_12_method_36_code 96 = .ok (.iconst 0, 1) := by decide +kernel
theorem d_Mod_unlink_97 : decode prog_12_method_36_code 97 = .ok (.ireturn, 1) := by decide +kernel
theorem d_Mod_unlink_98 : decode prog_12_method_36_code 98 = .ok (.aload_n 0, 1) := by decide +kernel
theorem d_Mod_unlink_99 : decode prog_12_method_36_code 99 = .ok (.getfield 54, 3) := by decide +kernel
theorem d_Mod_unlink_102 : decode prog_12_method_36_code 102 = .ok (.iload 4, 2) := by decide +kernel
theorem d_Mod_unlink_104 : decode prog_12_method_36_code 104 = .ok (.iaload, 1) := by decide +kernel
theorem d_Mod_unlink_105 : decode prog_12_method_36_code 105 = .ok (.istore 5, 2) := by decide +kernel
theorem d_Mod_unlink_107 : decode prog_12_method_36_code 107 = .ok (.aload_n 0, 1) := by decide +kernel
theorem d_Mod_unlink_108 : decode prog_12_method_36_code 108 = .ok (.iload 4, 2) := by decide +kernel
theorem d_Mod_unlink_110 : decode prog_12_method_36_code 110 = .ok (.invokevirtual 197, 3) := by decide +kernel
theorem d_Mod_unlink_113 : decode prog_12_method_36_code 113 = .ok (.aload_n 0, 1) := by decide +kernel
theorem d_Mod_unlink_114 : decode prog_12_method_36_code 114 = .ok (.iload 5, 2) := by decide +kernel
theorem d_Mod_unlink_116 : decode prog_12_method_36_code 116 = .ok (.invokevirtual 200, 3) := by decide +kernel
theorem d_Mod_unlink_119 : decode prog_12_method_36_code 119 = .ok (.ireturn, 1) := by decide +kernel
set_option maxHeartbeats 4000000 in
set_option maxRecDepth 100000 in
theorem v_Mod_unlink_82 {p : Program} {l : Launch} {e : Env} {s : State} {m : MethodId} {args : Array Value} {below : List Frame} {meth : Method} {c : Code} {D : va_G} {ad : Nat → Nat} {ca : Nat → ClassId} {A : Nat → Prop} {FU : Nat} {q : Int32 × St} (X : FX p s m meth c prog_12_method_36_code 6 (some .int) "FlashFilesModel" D (tyM ca) A) {y4 : Int32} {z0 : Int32} {z1 : Int32} {g : St} {H : Heap} {locs : List Loc} {ls : Array Slot} (hP : va_P D cls (wM ad ca g) H) (hD : va_D A (wM ad ca g)) (hS : va_S A s.heap H locs) (hl : lv_has ls 6 [(0, .ref (ad 0)), (4, .int y4)]) (h : Mod_unlink_b82 FU y4 z0 z1 g = some q) : W p l e (rmN 6) s m args below meth c H locs 0 0 (MQ below (fxQi D (tyM ca) A (wM ad ca q.2) q.1) args s 0 0 A) (F0 m 82 ls [.int z0, .int z1, .ref (ad 0)]) := by
  have hx := X.1
  have hb := X.2.1
  unfold Mod_unlink_b82 at h
  obtain ⟨p1, e1, h⟩ := bd_some h
  refine fx_i X (fx_runV (As := [.int z1, .int z0]) X (m_Mod_throwing e1 _) hP hD kv_Mod_148 ⟨Nat.le_of_ble_eq_true rfl, Nat.le_of_ble_eq_true rfl⟩ 0 rfl rfl rfl hl.1 rfl (Nat.le_of_ble_eq_true rfl) d_Mod_unlink_82) hD hS (fun H locs hP hD hS => ?_)
  refine lv_if_ne (tgt := 96) hx hb d_Mod_unlink_85 (by decide) (fun hc => ?_) (fun hc => ?_)
  · have h := if_f hc h
    refine lv_iconst (v := 0) hx hb d_Mod_unlink_96 (by decide) ?_
    cases h
    exact fx_iret X hP hD hS d_Mod_unlink_97
  · have h := if_t hc h
    refine lv_aload_n hx hb d_Mod_unlink_88 rfl (lv_at hl 0 rfl) ?_
    refine lv_iconst (v := 4) hx hb d_Mod_unlink_89 (by decide) ?_
    obtain ⟨p2, e1, h⟩ := bd_some h
    refine fx_i X (fx_runV (As := [.int (4 : Int32)]) X (m_Mod_stops e1 _) hP hD kv_Mod_188 ⟨Nat.le_of_ble_eq_true rfl, Nat.le_of_ble_eq_true rfl⟩ 0 rfl rfl rfl hl.1 rfl (Nat.le_of_ble_eq_true rfl) d_Mod_unlink_90) hD hS (fun H locs hP hD hS => ?_)
    refine lv_if_eq (tgt := 98) hx hb d_Mod_unlink_93 (by decide) (fun hc => ?_) (fun hc => ?_)
    · have h := if_t hc h
      refine lv_aload_n hx hb d_Mod_unlink_98 rfl (lv_at hl 0 rfl) ?_
      refine gM_mod_entryId X hP d_Mod_unlink_99 ?_
      refine lv_iload hx hb d_Mod_unlink_102 (lv_at hl 1 rfl) ?_
      obtain ⟨v3, e1, h⟩ := bd_some h
      refine rM_12 X hP e1 d_Mod_unlink_104 ?_
      refine lv_istore hx hb d_Mod_unlink_105 hl (by decide) rfl (fun ls hl => ?_)
      have hl : lv_has ls 6 [(5, .int v3), (0, .ref (ad 0)), (4, .int y4)] := hl
      refine lv_aload_n hx hb d_Mod_unlink_107 rfl (lv_at hl 1 rfl) ?_
      refine lv_iload hx hb d_Mod_unlink_108 (lv_at hl 2 rfl) ?_
      obtain ⟨p4, e1, h⟩ := bd_some h
      refine fx_v X (fx_runV (As := [.int y4]) X (m_Mod_removeEntry e1 _) hP hD kv_Mod_197 ⟨Nat.le_of_ble_eq_true rfl, Nat.le_of_ble_eq_true rfl⟩ 0 rfl rfl rfl hl.1 rfl (Nat.le_of_ble_eq_true rfl) d_Mod_unlink_110) hD hS (fun H locs hP hD hS => ?_)
      refine lv_aload_n hx hb d_Mod_unlink_113 rfl (lv_at hl 1 rfl) ?_
      refine lv_iload hx hb d_Mod_unlink_114 (lv_at hl 0 rfl) ?_
      obtain ⟨p5, e1, h⟩ := bd_some h
      refine fx_i X (fx_runV (As := [.int v3]) X (m_Mod_loosen e1 _) hP hD kv_Mod_200 ⟨Nat.le_of_ble_eq_true rfl, Nat.le_of_ble_eq_true rfl⟩ 0 rfl rfl rfl hl.1 rfl (Nat.le_of_ble_eq_true rfl) d_Mod_unlink_116) hD hS (fun H locs hP hD hS => ?_)
      cases h
      exact fx_iret X hP hD hS d_Mod_unlink_119
    · have h := if_f hc h
      refine lv_iconst (v := 0) hx hb d_Mod_unlink_96 (by decide) ?_
      cases h
      exact fx_iret X hP hD hS d_Mod_unlink_97
set_option maxHeartbeats 4000000 in
set_option maxRecDepth 100000 in
theorem v_Mod_unlink_77 {p : Program} {l : Launch} {e : Env} {s : State} {m : MethodId} {args : Array Value} {below : List Frame} {meth : Method} {c : Code} {D : va_G} {ad : Nat → Nat} {ca : Nat → ClassId} {A : Nat → Prop} {FU : Nat} {q : Int32 × St} (X : FX p s m meth c prog_12_method_36_code 6 (some .int) "FlashFilesModel" D (tyM ca) A) {y4 : Int32} {z0 : Int32} {g : St} {H : Heap} {locs : List Loc} {ls : Array Slot} (hP : va_P D cls (wM ad ca g) H) (hD : va_D A (wM ad ca g)) (hS : va_S A s.heap H locs) (hl : lv_has ls 6 [(0, .ref (ad 0)), (4, .int y4)]) (h : Mod_unlink_b77 FU y4 z0 g = some q) : W p l e (rmN 6) s m args below meth c H locs 0 0 (MQ below (fxQi D (tyM ca) A (wM ad ca q.2) q.1) args s 0 0 A) (F0 m 77 ls [.int z0, .ref (ad 0)]) := by
  have hx := X.1
  have hb := X.2.1
  unfold Mod_unlink_b77 at h
  refine lv_iconst (v := 1) hx hb d_Mod_unlink_77 (by decide) ?_
  refine lv_goto (tgt := 82) hx hb d_Mod_unlink_78 (by decide) ?_
  exact v_Mod_unlink_82 X  hP hD hS (lv_sub hl [0, 1] rfl) h
set_option maxHeartbeats 4000000 in
set_option maxRecDepth 100000 in
theorem v_Mod_unlink_48 {p : Program} {l : Launch} {e : Env} {s : State} {m : MethodId} {args : Array Value} {below : List Frame} {meth : Method} {c : Code} {D : va_G} {ad : Nat → Nat} {ca : Nat → ClassId} {A : Nat → Prop} {FU : Nat} {q : Int32 × St} (X : FX p s m meth c prog_12_method_36_code 6 (some .int) "FlashFilesModel" D (tyM ca) A) {y3 : Int32} {z0 : Int32} {g : St} {H : Heap} {locs : List Loc} {ls : Array Slot} (hP : va_P D cls (wM ad ca g) H) (hD : va_D A (wM ad ca g)) (hS : va_S A s.heap H locs) (hl : lv_has ls 6 [(0, .ref (ad 0)), (3, .int y3)]) (h : Mod_unlink_b48 FU y3 z0 g = some q) : W p l e (rmN 6) s m args below meth c H locs 0 0 (MQ below (fxQi D (tyM ca) A (wM ad ca q.2) q.1) args s 0 0 A) (F0 m 48 ls [.int z0]) := by
  have hx := X.1
  have hb := X.2.1
  unfold Mod_unlink_b48 at h
  refine lv_istore hx hb d_Mod_unlink_48 hl (by decide) rfl (fun ls hl => ?_)
  have hl : lv_has ls 6 [(4, .int z0), (0, .ref (ad 0)), (3, .int y3)] := hl
  refine lv_aload_n hx hb d_Mod_unlink_50 rfl (lv_at hl 1 rfl) ?_
  obtain ⟨p6, e1, h⟩ := bd_some h
  refine fx_v X (fx_runV (As := []) X (m_Mod_done e1 _) hP hD kv_Mod_185 ⟨Nat.le_of_ble_eq_true rfl, Nat.le_of_ble_eq_true rfl⟩ 0 rfl rfl rfl hl.1 rfl (Nat.le_of_ble_eq_true rfl) d_Mod_unlink_51) hD hS (fun H locs hP hD hS => ?_)
  refine lv_aload_n hx hb d_Mod_unlink_54 rfl (lv_at hl 1 rfl) ?_
  refine lv_iload_n hx hb d_Mod_unlink_55 rfl (lv_at hl 2 rfl) ?_
  refine lv_iload hx hb d_Mod_unlink_56 (lv_at hl 0 rfl) ?_
  refine lv_if_lt (tgt := 77) hx hb d_Mod_unlink_58 (by decide) (fun hc => ?_) (fun hc => ?_)
  · have h := if_t hc h
    exact v_Mod_unlink_77 X  hP hD hS (lv_sub hl [1, 0] rfl) h
  · have h := if_f hc h
    refine lv_aload_n hx hb d_Mod_unlink_61 rfl (lv_at hl 1 rfl) ?_
    refine gM_mod_kind X hP d_Mod_unlink_62 ?_
    refine lv_aload_n hx hb d_Mod_unlink_65 rfl (lv_at hl 1 rfl) ?_
    refine gM_mod_entryId X hP d_Mod_unlink_66 ?_
    refine lv_iload hx hb d_Mod_unlink_69 (lv_at hl 0 rfl) ?_
    obtain ⟨v7, e1, h⟩ := bd_some h
    refine rM_12 X hP e1 d_Mod_unlink_71 ?_
    obtain ⟨v8, e1, h⟩ := bd_some h
    refine rM_2 X hP e1 d_Mod_unlink_72 ?_
    refine lv_iconst (v := 1) hx hb d_Mod_unlink_73 (by decide) ?_
    refine lv_icmp_eq (tgt := 81) hx hb d_Mod_unlink_74 (by decide) (fun hc => ?_) (fun hc => ?_)
    · have h := if_t hc h
      refine lv_iconst (v := 0) hx hb d_Mod_unlink_81 (by decide) ?_
      exact v_Mod_unlink_82 X  hP hD hS (lv_sub hl [1, 0] rfl) h
    · have h := if_f hc h
      exact v_Mod_unlink_77 X  hP hD hS (lv_sub hl [1, 0] rfl) h
set_option maxHeartbeats 4000000 in
set_option maxRecDepth 100000 in
theorem v_Mod_unlink_32 {p : Program} {l : Launch} {e : Env} {s : State} {m : MethodId} {args : Array Value} {below : List Frame} {meth : Method} {c : Code} {D : va_G} {ad : Nat → Nat} {ca : Nat → ClassId} {A : Nat → Prop} {FU : Nat} {q : Int32 × St} (X : FX p s m meth c prog_12_method_36_code 6 (some .int) "FlashFilesModel" D (tyM ca) A) {y1 : Int32} {y2 : Int32} {z0 : Int32} {g : St} {H : Heap} {locs : List Loc} {ls : Array Slot} (hP : va_P D cls (wM ad ca g) H) (hD : va_D A (wM ad ca g)) (hS : va_S A s.heap H locs) (hl : lv_has ls 6 [(0, .ref (ad 0)), (1, .int y1), (2, .int y2)]) (h : Mod_unlink_b32 FU y1 y2 z0 g = some q) : W p l e (rmN 6) s m args below meth c H locs 0 0 (MQ below (fxQi D (tyM ca) A (wM ad ca q.2) q.1) args s 0 0 A) (F0 m 32 ls [.int z0]) := by
  have hx := X.1
  have hb := X.2.1
  unfold Mod_unlink_b32 at h
  refine lv_istore_n hx hb d_Mod_unlink_32 rfl hl (by decide) rfl (fun ls hl => ?_)
  have hl : lv_has ls 6 [(3, .int z0), (0, .ref (ad 0)), (1, .int y1), (2, .int y2)] := hl
  refine lv_iload_n hx hb d_Mod_unlink_33 rfl (lv_at hl 0 rfl) ?_
  refine lv_if_eq (tgt := 41) hx hb d_Mod_unlink_34 (by decide) (fun hc => ?_) (fun hc => ?_)
  · have h := if_t hc h
    refine lv_aload_n hx hb d_Mod_unlink_41 rfl (lv_at hl 1 rfl) ?_
    refine lv_iload_n hx hb d_Mod_unlink_42 rfl (lv_at hl 2 rfl) ?_
    refine lv_iconst (v := 0) hx hb d_Mod_unlink_43 (by decide) ?_
    refine lv_iload_n hx hb d_Mod_unlink_44 rfl (lv_at hl 3 rfl) ?_
    obtain ⟨v9, e1, h⟩ := bd_some h
    refine fx_i X (fx_runV (As := [.int y1, .int (0 : Int32), .int y2]) X (m_Mod_seek e1 _) hP hD kv_Mod_179 ⟨Nat.le_of_ble_eq_true rfl, Nat.le_of_ble_eq_true rfl⟩ 0 rfl rfl rfl hl.1 rfl (Nat.le_of_ble_eq_true rfl) d_Mod_unlink_45) hD hS (fun H locs hP hD hS => ?_)
    exact v_Mod_unlink_48 X  hP hD hS (lv_sub hl [1, 0] rfl) h
  · have h := if_f hc h
    refine lv_iconst (v := -1) hx hb d_Mod_unlink_37 (by decide) ?_
    refine lv_goto (tgt := 48) hx hb d_Mod_unlink_38 (by decide) ?_
    exact v_Mod_unlink_48 X  hP hD hS (lv_sub hl [1, 0] rfl) h
set_option maxHeartbeats 4000000 in
set_option maxRecDepth 100000 in
theorem v_Mod_unlink_27 {p : Program} {l : Launch} {e : Env} {s : State} {m : MethodId} {args : Array Value} {below : List Frame} {meth : Method} {c : Code} {D : va_G} {ad : Nat → Nat} {ca : Nat → ClassId} {A : Nat → Prop} {FU : Nat} {q : Int32 × St} (X : FX p s m meth c prog_12_method_36_code 6 (some .int) "FlashFilesModel" D (tyM ca) A) {y1 : Int32} {y2 : Int32} {g : St} {H : Heap} {locs : List Loc} {ls : Array Slot} (hP : va_P D cls (wM ad ca g) H) (hD : va_D A (wM ad ca g)) (hS : va_S A s.heap H locs) (hl : lv_has ls 6 [(0, .ref (ad 0)), (1, .int y1), (2, .int y2)]) (h : Mod_unlink_b27 FU y1 y2 g = some q) : W p l e (rmN 6) s m args below meth c H locs 0 0 (MQ below (fxQi D (tyM ca) A (wM ad ca q.2) q.1) args s 0 0 A) (F0 m 27 ls []) := by
  have hx := X.1
  have hb := X.2.1
  unfold Mod_unlink_b27 at h
  refine lv_iconst (v := 1) hx hb d_Mod_unlink_27 (by decide) ?_
  refine lv_goto (tgt := 32) hx hb d_Mod_unlink_28 (by decide) ?_
  exact v_Mod_unlink_32 X  hP hD hS (lv_sub hl [0, 1, 2] rfl) h
set_option maxHeartbeats 4000000 in
set_option maxRecDepth 100000 in
theorem m_Mod_unlink {l : Launch} {D : va_G} {ad : Nat → Nat} {ca : Nat → ClassId} {FU : Nat} {x1 : Int32} {x2 : Int32} {g : St} {q : Int32 × St} (h : Mod_unlink FU x1 x2 g = some q) : CI l ⟨"FlashFilesModel", "unlink", "(II)I"⟩ prog_12_method_36_code 6 6 (some .int) D (tyM ca) (wM ad ca g) [.ref (ad 0), .int x1, .int x2] q.1 (wM ad ca q.2) := by
  intro sz
  refine Met.fx (Qc := fun A => fxQi D (tyM ca) A (wM ad ca q.2) q.1) (by decide) (Nat.le_of_ble_eq_true rfl) ?_
  intro p e s m below meth c A ls X hP hD hl
  have hl : lv_has ls 6 [(0, .ref (ad 0)), (1, .int x1), (2, .int x2)] := hl
  have hS : va_S A s.heap s.heap [] := va_S.rf
  have hx := X.1
  have hb := X.2.1
  unfold Mod_unlink at h
  refine lv_aload_n hx hb d_Mod_unlink_0 rfl (lv_at hl 0 rfl) ?_
  obtain ⟨p10, e1, h⟩ := bd_some h
  refine fx_i X (fx_runV (As := []) X (m_Mod_isOff e1 _) hP hD kv_Mod_169 ⟨Nat.le_of_ble_eq_true rfl, Nat.le_of_ble_eq_true rfl⟩ 0 rfl rfl rfl hl.1 rfl (Nat.le_of_ble_eq_true rfl) d_Mod_unlink_1) hD hS (fun H locs hP hD hS => ?_)
  refine lv_if_eq (tgt := 9) hx hb d_Mod_unlink_4 (by decide) (fun hc => ?_) (fun hc => ?_)
  · have h := if_t hc h
    refine lv_aload_n hx hb d_Mod_unlink_9 rfl (lv_at hl 0 rfl) ?_
    refine lv_iload_n hx hb d_Mod_unlink_10 rfl (lv_at hl 1 rfl) ?_
    refine lv_iconst (v := 2) hx hb d_Mod_unlink_11 (by decide) ?_
    obtain ⟨v11, e1, h⟩ := bd_some h
    refine fx_i X (fx_runV (As := [.int x1, .int (2 : Int32)]) X (m_Mod_is e1 _) hP hD kv_Mod_172 ⟨Nat.le_of_ble_eq_true rfl, Nat.le_of_ble_eq_true rfl⟩ 0 rfl rfl rfl hl.1 rfl (Nat.le_of_ble_eq_true rfl) d_Mod_unlink_12) hD hS (fun H locs hP hD hS => ?_)
    refine lv_if_eq (tgt := 27) hx hb d_Mod_unlink_15 (by decide) (fun hc => ?_) (fun hc => ?_)
    · have h := if_t hc h
      exact v_Mod_unlink_27 X  hP hD hS (lv_sub hl [0, 1, 2] rfl) h
    · have h := if_f hc h
      refine lv_aload_n hx hb d_Mod_unlink_18 rfl (lv_at hl 0 rfl) ?_
      refine lv_iconst (v := 0) hx hb d_Mod_unlink_19 (by decide) ?_
      refine lv_iload_n hx hb d_Mod_unlink_20 rfl (lv_at hl 2 rfl) ?_
      obtain ⟨v12, e1, h⟩ := bd_some h
      refine fx_i X (fx_runV (As := [.int (0 : Int32), .int x2]) X (m_Mod_isName e1 _) hP hD kv_Mod_176 ⟨Nat.le_of_ble_eq_true rfl, Nat.le_of_ble_eq_true rfl⟩ 0 rfl rfl rfl hl.1 rfl (Nat.le_of_ble_eq_true rfl) d_Mod_unlink_21) hD hS (fun H locs hP hD hS => ?_)
      refine lv_if_ne (tgt := 31) hx hb d_Mod_unlink_24 (by decide) (fun hc => ?_) (fun hc => ?_)
      · have h := if_f hc h
        refine lv_iconst (v := 0) hx hb d_Mod_unlink_31 (by decide) ?_
        exact v_Mod_unlink_32 X  hP hD hS (lv_sub hl [0, 1, 2] rfl) h
      · have h := if_t hc h
        exact v_Mod_unlink_27 X  hP hD hS (lv_sub hl [0, 1, 2] rfl) h
  · have h := if_f hc h
    refine lv_iconst (v := 0) hx hb d_Mod_unlink_7 (by decide) ?_
    cases h
    exact fx_iret X hP hD hS d_Mod_unlink_8
theorem d_Mod_removeDirectory_0 : decode prog_12_method_37_code 0 = .ok (.aload_n 0, 1) := by decide +kernel
theorem d_Mod_removeDirectory_1 : decode prog_12_method_37_code 1 = .ok (.invokevirtual 169, 3) := by decide +kernel
theorem d_Mod_removeDirectory_4 : decode prog_12_method_37_code 4 = .ok (.ifCond .eq 4, 3) := by decide +kernel
theorem d_Mod_removeDirectory_7 : decode prog_12_method_37_code 7 = .ok (.return_, 1) := by decide +kernel
theorem d_Mod_removeDirectory_8 : decode prog_12_method_37_code 8 = .ok (.aload_n 0, 1) := by decide +kernel
theorem d_Mod_removeDirectory_9 : decode prog_12_method_37_code 9 = .ok (.iload_n 1, 1) := by decide +kernel
theorem d_Mod_removeDirectory_10 : decode prog_12_method_37_code 10 = .ok (.iconst 2, 1) := by decide +kernel
theorem d_Mod_removeDirectory_11 : decode prog_12_method_37_code 11 = .ok (.invokevirtual 172, 3) := by decide +kernel
theorem d_Mod_removeDirectory_14 : decode prog_12_method_37_code 14 = .ok (.ifCond .eq 12, 3) := by decide +kernel
theorem d_Mod_removeDirectory_17 : decode prog_12_method_37_code 17 = .ok (.aload_n 0, 1) := by decide +kernel
theorem d_Mod_removeDirectory_18 : decode prog_12_method_37_code 18 = .ok (.iconst 0, 1) := by decide +kernel
theorem d_Mod_removeDirectory_19 : decode prog_12_method_37_code 19 = .ok (.iload_n 2, 1) := by decide +kernel
theorem d_Mod_removeDirectory_20 : decode prog_12_method_37_code 20 = .ok (.invokevirtual 176, 3) := by decide +kernel
theorem d_Mod_removeDirectory_23 : decode prog_12_method_37_code 23 = .ok (.ifCond .ne 7, 3) := by decide +kernel
theorem d_Mod_removeDirectory_26 : decode prog_12_method_37_code 26 = .ok (.iconst 1, 1) := by decide +kernel
theorem d_Mod_removeDirectory_27 : decode prog_12_method_37_code 27 = .ok (.goto 4, 3) := by decide +kernel
theorem d_Mod_removeDirectory_30 : decode prog_12_method_37_code 30 = .ok (.iconst 0, 1) := by decide +kernel
theorem d_Mod_removeDirectory_31 : decode prog_12_method_37_code 31 = .ok (.istore_n 3, 1) := by decide +kernel
theorem d_Mod_removeDirectory_32 : decode prog_12_method_37_code 32 = .ok (.iload_n 3, 1) := by decide +kernel
theorem d_Mod_removeDirectory_33 : decode prog_12_method_37_code 33 = .ok (.ifCond .eq 7, 3) := by decide +kernel
theorem d_Mod_removeDirectory_36 : decode prog_12_method_37_code 36 = .ok (.iconst (-1), 1) := by decide +kernel
theorem d_Mod_removeDirectory_37 : decode prog_12_method_37_code 37 = .ok (.goto 10, 3) := by decide +kernel
theorem d_Mod_removeDirectory_40 : decode prog_12_method_37_code 40 = .ok (.aload_n 0, 1) := by decide +kernel
theorem d_Mod_removeDirectory_41 : decode prog_12_method_37_code 41 = .ok (.iload_n 1, 1) := by decide +kernel
theorem d_Mod_removeDirectory_42 : decode prog_12_method_37_code 42 = .ok (.iconst 0, 1) := by decide +kernel
theorem d_Mod_removeDirectory_43 : decode prog_12_method_37_code 43 = .ok (.iload_n 2, 1) := by decide +kernel
theorem d_Mod_removeDirectory_44 : decode prog_12_method_37_code 44 = .ok (.invokevirtual 179, 3) := by decide +kernel
theorem d_Mod_removeDirectory_47 : decode prog_12_method_37_code 47 = .ok (.istore 4, 2) := by decide +kernel
theorem d_Mod_removeDirectory_49 : decode prog_12_method_37_code 49 = .ok (.aload_n 0, 1) := by decide +kernel
theorem d_Mod_removeDirectory_50 : decode prog_12_method_37_code 50 = .ok (.invokevirtual 185, 3) := by decide +kernel
theorem d_Mod_removeDirectory_53 : decode prog_12_method_37_code 53 = .ok (.aload_n 0, 1) := by decide +kernel
theorem d_Mod_removeDirectory_54 : decode prog_12_method_37_code 54 = .ok (.iload_n 3, 1) := by decide +kernel
theorem d_Mod_removeDirectory_55 : decode prog_12_method_37_code 55 = .ok (.iload 4, 2) := by decide +kernel
theorem d_Mod_removeDirectory_57 : decode prog_12_method_37_code 57 = .ok (.ifCond .lt 33, 3) := by decide +kernel
theorem d_Mod_removeDirectory_60 : decode prog_12_method_37_code 60 = .ok (.aload_n 0, 1) := by decide +kernel
theorem d_Mod_removeDirectory_61 : decode prog_12_method_37_code 61 = .ok (.getfield 20, 3) := by decide +kernel
theorem d_Mod_removeDirectory_64 : decode prog_12_method_37_code 64 = .ok (.aload_n 0, 1) := by decide +kernel
theorem d_Mod_removeDirectory_65 : decode prog_12_method_37_code 65 = .ok (.getfield 54, 3) := by decide +kernel
theorem d_Mod_removeDirectory_68 : decode prog_12_method_37_code 68 = .ok (.iload 4, 2) := by decide +kernel
theorem d_Mod_removeDirectory_70 : decode prog_12_method_37_code 70 = .ok (.iaload, 1) := by decide +kernel
theorem d_Mod_removeDirectory_71 : decode prog_12_method_37_code 71 = .ok (.iaload, 1) := by decide +kernel
theorem d_Mod_removeDirectory_72 : decode prog_12_method_37_code 72 = .ok (.iconst 2, 1) := by decide +kernel
theorem d_Mod_removeDirectory_73 : decode prog_12_method_37_code 73 = .ok (.if_icmp .ne 17, 3) := by decide +kernel
theorem d_Mod_removeDirectory_76 : decode prog_12_method_37_code 76 = .ok (.aload_n 0, 1) := by decide +kernel
theorem d_Mod_removeDirectory_77 : decode prog_12_method_37_code 77 = .ok (.aload_n 0, 1) := by decide +kernel
theorem d_Mod_removeDirectory_78 : decode prog_12_method_37_code 78 = .ok (.getfield 54, 3) := by decide +kernel
theorem d_Mod_removeDirectory_81 : decode prog_12_method_37_code 81 = .ok (.iload 4, 2) := by decide +kernel
theorem d_Mod_removeDirectory_83 : decode prog_12_method_37_code 83 = .ok (.iaload, 1) := by decide +kernel
theorem d_Mod_removeDirectory_84 : decode prog_12_method_37_code 84 = .ok (.invokevirtual 97, 3) := by decide +kernel
theorem d_Mod_removeDirectory_87 : decode prog_12_method_37_code 87 = .ok (.ifCond .le 7, 3) := by decide +kernel
theorem d_Mod_removeDirectory_90 : decode prog_12_method_37_code 90 = .ok (.iconst 1, 1) := by decide +kernel
theorem d_Mod_removeDirectory_91 : decode prog_12_method_37_code 91 = .ok (.goto 4, 3) := by decide +kernel
theorem d_Mod_removeDirectory_94 : decode prog_12_method_37_code 94 = .ok (.iconst 0, 1) := by decide +kernel
theorem d_Mod_removeDirectory_95 : decode prog_12_method_37_code 95 = .ok (.invokevirtual 148, 3) := by decide +kernel
theorem d_Mod_removeDirectory_98 : decode prog_12_method_37_code 98 = .ok (.ifCond .ne 11, 3) := by decide +kernel
theorem d_Mod_removeDirectory_101 : decode prog_12_method_37_code 101 = .ok (.aload_n 0, 1) := by decide +kernel
theorem d_Mod_removeDirectory_102 : decode prog_12_method_37_code 102 = .ok (.iconst 4, 1) := by decide +kernel
theorem d_Mod_removeDirectory_103 : decode prog_12_method_37_code 103 = .ok (.invokevirtual 188, 3) := by decide +kernel
theorem d_Mod_removeDirectory_106 : decode prog_12_method_37_code 106 = .ok (.ifCond .eq 4, 3) := by decide +kernel
theorem d_Mod_removeDirectory_109 : decode prog_12_method_37_code 109 = .ok (.return_, 1) := by decide +kernel
theorem d_Mod_removeDirectory_110 : decode prog_12_method_37_code 110 = .ok (.aload_n 0, 1) := by decide +kernel
theorem d_Mod_removeDirectory_111 : decode prog_12_method_37_code 111 = .ok (.aload_n 0, 1) := by decide +kernel
theorem d_Mod_removeDirectory_112 : decode prog_12_method_37_code 112 = .ok (.getfield 54, 3) := by decide +kernel
theorem d_Mod_removeDirectory_115 : decode prog_12_method_37_code 115 = .ok (.iload 4, 2) := by decide +kernel
theorem d_Mod_removeDirectory_117 : decode prog_12_method_37_code 117 = .ok (.iaload, 1) := by decide +kernel
theorem d_Mod_removeDirectory_118 : decode prog_12_method_37_code 118 = .ok (.iconst 0, 1) := by decide +kernel
theorem d_Mod_removeDirectory_119 : decode prog_12_method_37_code 119 = .ok (.invokevirtual 119, 3) := by decide +kernel
theorem d_Mod_removeDirectory_122 : decode prog_12_method_37_code 122 = .ok (.aload_n 0, 1) := by decide +kernel
theorem d_Mod_removeDirectory_123 : decode prog_12_method_37_code 123 = .ok (.iload 4, 2) := by decide +kernel
theorem d_Mod_removeDirectory_125 : decode prog_12_method_37_code 125 = .ok (.invokevirtual 197, 3) := by decide +kernel
theorem d_Mod_removeDirectory_128 : decode prog_12_method_37_code 128 = .ok (.return_, 1) := by decide +kernel
set_option maxHeartbeats 4000000 in
set_option maxRecDepth 100000 in
theorem v_Mod_removeDirectory_95 {p : Program} {l : Launch} {e : Env} {s : State} {m : MethodId} {args : Array Value} {below : List Frame} {meth : Method} {c : Code} {D : va_G} {ad : Nat → Nat} {ca : Nat → ClassId} {A : Nat → Prop} {FU : Nat} {q : St} (X : FX p s m meth c prog_12_method_37_code 5 none "FlashFilesModel" D (tyM ca) A) {y4 : Int32} {z0 : Int32} {z1 : Int32} {g : St} {H : Heap} {locs : List Loc} {ls : Array Slot} (hP : va_P D cls (wM ad ca g) H) (hD : va_D A (wM ad ca g)) (hS : va_S A s.heap H locs) (hl : lv_has ls 5 [(0, .ref (ad 0)), (4, .int y4)]) (h : Mod_removeDirectory_b95 FU y4 z0 z1 g = some q) : W p l e (rmN 6) s m args below meth c H locs 0 0 (MQ below (fxQv D (tyM ca) A (wM ad ca q)) args s 0 0 A) (F0 m 95 ls [.int z0, .int z1, .ref (ad 0)]) := by
  have hx := X.1
  have hb := X.2.1
  unfold Mod_removeDirectory_b95 at h
  obtain ⟨p1, e1, h⟩ := bd_some h
  refine fx_i X (fx_runV (As := [.int z1, .int z0]) X (m_Mod_throwing e1 _) hP hD kv_Mod_148 ⟨Nat.le_of_ble_eq_true rfl, Nat.le_of_ble_eq_true rfl⟩ 0 rfl rfl rfl hl.1 rfl (Nat.le_of_ble_eq_true rfl) d_Mod_removeDirectory_95) hD hS (fun H locs hP hD hS => ?_)
  refine lv_if_ne (tgt := 109) hx hb d_Mod_removeDirectory_98 (by decide) (fun hc => ?_) (fun hc => ?_)
  · have h := if_f hc h
    cases h
    exact fx_vret X hP hD hS d_Mod_removeDirectory_109
  · have h := if_t hc h
    refine lv_aload_n hx hb d_Mod_removeDirectory_101 rfl (lv_at hl 0 rfl) ?_
    refine lv_iconst (v := 4) hx hb d_Mod_removeDirectory_102 (by decide) ?_
    obtain ⟨p2, e1, h⟩ := bd_some h
    refine fx_i X (fx_runV (As := [.int (4 : Int32)]) X (m_Mod_stops e1 _) hP hD kv_Mod_188 ⟨Nat.le_of_ble_eq_true rfl, Nat.le_of_ble_eq_true rfl⟩ 0 rfl rfl rfl hl.1 rfl (Nat.le_of_ble_eq_true rfl) d_Mod_removeDirectory_103) hD hS (fun H locs hP hD hS => ?_)
    refine lv_if_eq (tgt := 110) hx hb d_Mod_removeDirectory_106 (by decide) (fun hc => ?_) (fun hc => ?_)
    · have h := if_t hc h
      refine lv_aload_n hx hb d_Mod_removeDirectory_110 rfl (lv_at hl 0 rfl) ?_
      refine lv_aload_n hx hb d_Mod_removeDirectory_111 rfl (lv_at hl 0 rfl) ?_
      refine gM_mod_entryId X hP d_Mod_removeDirectory_112 ?_
      refine lv_iload hx hb d_Mod_removeDirectory_115 (lv_at hl 1 rfl) ?_
      obtain ⟨v3, e1, h⟩ := bd_some h
      refine rM_12 X hP e1 d_Mod_removeDirectory_117 ?_
      refine lv_iconst (v := 0) hx hb d_Mod_removeDirectory_118 (by decide) ?_
      obtain ⟨p4, e1, h⟩ := bd_some h
      refine fx_v X (fx_runV (As := [.int v3, .int (0 : Int32)]) X (m_Mod_drop e1 _) hP hD kv_Mod_119 ⟨Nat.le_of_ble_eq_true rfl, Nat.le_of_ble_eq_true rfl⟩ 0 rfl rfl rfl hl.1 rfl (Nat.le_of_ble_eq_true rfl) d_Mod_removeDirectory_119) hD hS (fun H locs hP hD hS => ?_)
      refine lv_aload_n hx hb d_Mod_removeDirectory_122 rfl (lv_at hl 0 rfl) ?_
      refine lv_iload hx hb d_Mod_removeDirectory_123 (lv_at hl 1 rfl) ?_
      obtain ⟨p5, e1, h⟩ := bd_some h
      refine fx_v X (fx_runV (As := [.int y4]) X (m_Mod_removeEntry e1 _) hP hD kv_Mod_197 ⟨Nat.le_of_ble_eq_true rfl, Nat.le_of_ble_eq_true rfl⟩ 0 rfl rfl rfl hl.1 rfl (Nat.le_of_ble_eq_true rfl) d_Mod_removeDirectory_125) hD hS (fun H locs hP hD hS => ?_)
      cases h
      exact fx_vret X hP hD hS d_Mod_removeDirectory_128
    · have h := if_f hc h
      cases h
      exact fx_vret X hP hD hS d_Mod_removeDirectory_109
set_option maxHeartbeats 4000000 in
set_option maxRecDepth 100000 in
theorem v_Mod_removeDirectory_90 {p : Program} {l : Launch} {e : Env} {s : State} {m : MethodId} {args : Array Value} {below : List Frame} {meth : Method} {c : Code} {D : va_G} {ad : Nat → Nat} {ca : Nat → ClassId} {A : Nat → Prop} {FU : Nat} {q : St} (X : FX p s m meth c prog_12_method_37_code 5 none "FlashFilesModel" D (tyM ca) A) {y4 : Int32} {z0 : Int32} {g : St} {H : Heap} {locs : List Loc} {ls : Array Slot} (hP : va_P D cls (wM ad ca g) H) (hD : va_D A (wM ad ca g)) (hS : va_S A s.heap H locs) (hl : lv_has ls 5 [(0, .ref (ad 0)), (4, .int y4)]) (h : Mod_removeDirectory_b90 FU y4 z0 g = some q) : W p l e (rmN 6) s m args below meth c H locs 0 0 (MQ below (fxQv D (tyM ca) A (wM ad ca q)) args s 0 0 A) (F0 m 90 ls [.int z0, .ref (ad 0)]) := by
  have hx := X.1
  have hb := X.2.1
  unfold Mod_removeDirectory_b90 at h
  refine lv_iconst (v := 1) hx hb d_Mod_removeDirectory_90 (by decide) ?_
  refine lv_goto (tgt := 95) hx hb d_Mod_removeDirectory_91 (by decide) ?_
  exact v_Mod_removeDirectory_95 X  hP hD hS (lv_sub hl [0, 1] rfl) h
set_option maxHeartbeats 4000000 in
set_option maxRecDepth 100000 in
theorem v_Mod_removeDirectory_47 {p : Program} {l : Launch} {e : Env} {s : State} {m : MethodId} {args : Array Value} {below : List Frame} {meth : Method} {c : Code} {D : va_G} {ad : Nat → Nat} {ca : Nat → ClassId} {A : Nat → Prop} {FU : Nat} {q : St} (X : FX p s m meth c prog_12_method_37_code 5 none "FlashFilesModel" D (tyM ca) A) {y3 : Int32} {z0 : Int32} {g : St} {H : Heap} {locs : List Loc} {ls : Array Slot} (hP : va_P D cls (wM ad ca g) H) (hD : va_D A (wM ad ca g)) (hS : va_S A s.heap H locs) (hl : lv_has ls 5 [(0, .ref (ad 0)), (3, .int y3)]) (h : Mod_removeDirectory_b47 FU y3 z0 g = some q) : W p l e (rmN 6) s m args below meth c H locs 0 0 (MQ below (fxQv D (tyM ca) A (wM ad ca q)) args s 0 0 A) (F0 m 47 ls [.int z0]) := by
  have hx := X.1
  have hb := X.2.1
  unfold Mod_removeDirectory_b47 at h
  refine lv_istore hx hb d_Mod_removeDirectory_47 hl (by decide) rfl (fun ls hl => ?_)
  have hl : lv_has ls 5 [(4, .int z0), (0, .ref (ad 0)), (3, .int y3)] := hl
  refine lv_aload_n hx hb d_Mod_removeDirectory_49 rfl (lv_at hl 1 rfl) ?_
  obtain ⟨p6, e1, h⟩ := bd_some h
  refine fx_v X (fx_runV (As := []) X (m_Mod_done e1 _) hP hD kv_Mod_185 ⟨Nat.le_of_ble_eq_true rfl, Nat.le_of_ble_eq_true rfl⟩ 0 rfl rfl rfl hl.1 rfl (Nat.le_of_ble_eq_true rfl) d_Mod_removeDirectory_50) hD hS (fun H locs hP hD hS => ?_)
  refine lv_aload_n hx hb d_Mod_removeDirectory_53 rfl (lv_at hl 1 rfl) ?_
  refine lv_iload_n hx hb d_Mod_removeDirectory_54 rfl (lv_at hl 2 rfl) ?_
  refine lv_iload hx hb d_Mod_removeDirectory_55 (lv_at hl 0 rfl) ?_
  refine lv_if_lt (tgt := 90) hx hb d_Mod_removeDirectory_57 (by decide) (fun hc => ?_) (fun hc => ?_)
  · have h := if_t hc h
    exact v_Mod_removeDirectory_90 X  hP hD hS (lv_sub hl [1, 0] rfl) h
  · have h := if_f hc h
    refine lv_aload_n hx hb d_Mod_removeDirectory_60 rfl (lv_at hl 1 rfl) ?_
    refine gM_mod_kind X hP d_Mod_removeDirectory_61 ?_
    refine lv_aload_n hx hb d_Mod_removeDirectory_64 rfl (lv_at hl 1 rfl) ?_
    refine gM_mod_entryId X hP d_Mod_removeDirectory_65 ?_
    refine lv_iload hx hb d_Mod_removeDirectory_68 (lv_at hl 0 rfl) ?_
    obtain ⟨v7, e1, h⟩ := bd_some h
    refine rM_12 X hP e1 d_Mod_removeDirectory_70 ?_
    obtain ⟨v8, e1, h⟩ := bd_some h
    refine rM_2 X hP e1 d_Mod_removeDirectory_71 ?_
    refine lv_iconst (v := 2) hx hb d_Mod_removeDirectory_72 (by decide) ?_
    refine lv_icmp_ne (tgt := 90) hx hb d_Mod_removeDirectory_73 (by decide) (fun hc => ?_) (fun hc => ?_)
    · have h := if_f hc h
      exact v_Mod_removeDirectory_90 X  hP hD hS (lv_sub hl [1, 0] rfl) h
    · have h := if_t hc h
      refine lv_aload_n hx hb d_Mod_removeDirectory_76 rfl (lv_at hl 1 rfl) ?_
      refine lv_aload_n hx hb d_Mod_removeDirectory_77 rfl (lv_at hl 1 rfl) ?_
      refine gM_mod_entryId X hP d_Mod_removeDirectory_78 ?_
      refine lv_iload hx hb d_Mod_removeDirectory_81 (lv_at hl 0 rfl) ?_
      obtain ⟨v9, e1, h⟩ := bd_some h
      refine rM_12 X hP e1 d_Mod_removeDirectory_83 ?_
      obtain ⟨v10, e1, h⟩ := bd_some h
      refine fx_i X (fx_runV (As := [.int v9]) X (m_Mod_namesOf e1 _) hP hD kv_Mod_97 ⟨Nat.le_of_ble_eq_true rfl, Nat.le_of_ble_eq_true rfl⟩ 0 rfl rfl rfl hl.1 rfl (Nat.le_of_ble_eq_true rfl) d_Mod_removeDirectory_84) hD hS (fun H locs hP hD hS => ?_)
      refine lv_if_le (tgt := 94) hx hb d_Mod_removeDirectory_87 (by decide) (fun hc => ?_) (fun hc => ?_)
      · have h := if_t hc h
        refine lv_iconst (v := 0) hx hb d_Mod_removeDirectory_94 (by decide) ?_
        exact v_Mod_removeDirectory_95 X  hP hD hS (lv_sub hl [1, 0] rfl) h
      · have h := if_f hc h
        exact v_Mod_removeDirectory_90 X  hP hD hS (lv_sub hl [1, 0] rfl) h
set_option maxHeartbeats 4000000 in
set_option maxRecDepth 100000 in
theorem v_Mod_removeDirectory_31 {p : Program} {l : Launch} {e : Env} {s : State} {m : MethodId} {args : Array Value} {below : List Frame} {meth : Method} {c : Code} {D : va_G} {ad : Nat → Nat} {ca : Nat → ClassId} {A : Nat → Prop} {FU : Nat} {q : St} (X : FX p s m meth c prog_12_method_37_code 5 none "FlashFilesModel" D (tyM ca) A) {y1 : Int32} {y2 : Int32} {z0 : Int32} {g : St} {H : Heap} {locs : List Loc} {ls : Array Slot} (hP : va_P D cls (wM ad ca g) H) (hD : va_D A (wM ad ca g)) (hS : va_S A s.heap H locs) (hl : lv_has ls 5 [(0, .ref (ad 0)), (1, .int y1), (2, .int y2)]) (h : Mod_removeDirectory_b31 FU y1 y2 z0 g = some q) : W p l e (rmN 6) s m args below meth c H locs 0 0 (MQ below (fxQv D (tyM ca) A (wM ad ca q)) args s 0 0 A) (F0 m 31 ls [.int z0]) := by
  have hx := X.1
  have hb := X.2.1
  unfold Mod_removeDirectory_b31 at h
  refine lv_istore_n hx hb d_Mod_removeDirectory_31 rfl hl (by decide) rfl (fun ls hl => ?_)
  have hl : lv_has ls 5 [(3, .int z0), (0, .ref (ad 0)), (1, .int y1), (2, .int y2)] := hl
  refine lv_iload_n hx hb d_Mod_removeDirectory_32 rfl (lv_at hl 0 rfl) ?_
  refine lv_if_eq (tgt := 40) hx hb d_Mod_removeDirectory_33 (by decide) (fun hc => ?_) (fun hc => ?_)
  · have h := if_t hc h
    refine lv_aload_n hx hb d_Mod_removeDirectory_40 rfl (lv_at hl 1 rfl) ?_
    refine lv_iload_n hx hb d_Mod_removeDirectory_41 rfl (lv_at hl 2 rfl) ?_
    refine lv_iconst (v := 0) hx hb d_Mod_removeDirectory_42 (by decide) ?_
    refine lv_iload_n hx hb d_Mod_removeDirectory_43 rfl (lv_at hl 3 rfl) ?_
    obtain ⟨v11, e1, h⟩ := bd_some h
    refine fx_i X (fx_runV (As := [.int y1, .int (0 : Int32), .int y2]) X (m_Mod_seek e1 _) hP hD kv_Mod_179 ⟨Nat.le_of_ble_eq_true rfl, Nat.le_of_ble_eq_true rfl⟩ 0 rfl rfl rfl hl.1 rfl (Nat.le_of_ble_eq_true rfl) d_Mod_removeDirectory_44) hD hS (fun H locs hP hD hS => ?_)
    exact v_Mod_removeDirectory_47 X  hP hD hS (lv_sub hl [1, 0] rfl) h
  · have h := if_f hc h
    refine lv_iconst (v := -1) hx hb d_Mod_removeDirectory_36 (by decide) ?_
    refine lv_goto (tgt := 47) hx hb d_Mod_removeDirectory_37 (by decide) ?_
    exact v_Mod_removeDirectory_47 X  hP hD hS (lv_sub hl [1, 0] rfl) h
set_option maxHeartbeats 4000000 in
set_option maxRecDepth 100000 in
theorem v_Mod_removeDirectory_26 {p : Program} {l : Launch} {e : Env} {s : State} {m : MethodId} {args : Array Value} {below : List Frame} {meth : Method} {c : Code} {D : va_G} {ad : Nat → Nat} {ca : Nat → ClassId} {A : Nat → Prop} {FU : Nat} {q : St} (X : FX p s m meth c prog_12_method_37_code 5 none "FlashFilesModel" D (tyM ca) A) {y1 : Int32} {y2 : Int32} {g : St} {H : Heap} {locs : List Loc} {ls : Array Slot} (hP : va_P D cls (wM ad ca g) H) (hD : va_D A (wM ad ca g)) (hS : va_S A s.heap H locs) (hl : lv_has ls 5 [(0, .ref (ad 0)), (1, .int y1), (2, .int y2)]) (h : Mod_removeDirectory_b26 FU y1 y2 g = some q) : W p l e (rmN 6) s m args below meth c H locs 0 0 (MQ below (fxQv D (tyM ca) A (wM ad ca q)) args s 0 0 A) (F0 m 26 ls []) := by
  have hx := X.1
  have hb := X.2.1
  unfold Mod_removeDirectory_b26 at h
  refine lv_iconst (v := 1) hx hb d_Mod_removeDirectory_26 (by decide) ?_
  refine lv_goto (tgt := 31) hx hb d_Mod_removeDirectory_27 (by decide) ?_
  exact v_Mod_removeDirectory_31 X  hP hD hS (lv_sub hl [0, 1, 2] rfl) h
set_option maxHeartbeats 4000000 in
set_option maxRecDepth 100000 in
theorem m_Mod_removeDirectory {l : Launch} {D : va_G} {ad : Nat → Nat} {ca : Nat → ClassId} {FU : Nat} {x1 : Int32} {x2 : Int32} {g : St} {q : St} (h : Mod_removeDirectory FU x1 x2 g = some q) : CV l ⟨"FlashFilesModel", "removeDirectory", "(II)V"⟩ prog_12_method_37_code 5 6 D (tyM ca) (wM ad ca g) [.ref (ad 0), .int x1, .int x2] (wM ad ca q) := by
  intro sz
  refine Met.fx (Qc := fun A => fxQv D (tyM ca) A (wM ad ca q)) (by decide) (Nat.le_of_ble_eq_true rfl) ?_
  intro p e s m below meth c A ls X hP hD hl
  have hl : lv_has ls 5 [(0, .ref (ad 0)), (1, .int x1), (2, .int x2)] := hl
  have hS : va_S A s.heap s.heap [] := va_S.rf
  have hx := X.1
  have hb := X.2.1
  unfold Mod_removeDirectory at h
  refine lv_aload_n hx hb d_Mod_removeDirectory_0 rfl (lv_at hl 0 rfl) ?_
  obtain ⟨p12, e1, h⟩ := bd_some h
  refine fx_i X (fx_runV (As := []) X (m_Mod_isOff e1 _) hP hD kv_Mod_169 ⟨Nat.le_of_ble_eq_true rfl, Nat.le_of_ble_eq_true rfl⟩ 0 rfl rfl rfl hl.1 rfl (Nat.le_of_ble_eq_true rfl) d_Mod_removeDirectory_1) hD hS (fun H locs hP hD hS => ?_)
  refine lv_if_eq (tgt := 8) hx hb d_Mod_removeDirectory_4 (by decide) (fun hc => ?_) (fun hc => ?_)
  · have h := if_t hc h
    refine lv_aload_n hx hb d_Mod_removeDirectory_8 rfl (lv_at hl 0 rfl) ?_
    refine lv_iload_n hx hb d_Mod_removeDirectory_9 rfl (lv_at hl 1 rfl) ?_
    refine lv_iconst (v := 2) hx hb d_Mod_removeDirectory_10 (by decide) ?_
    obtain ⟨v13, e1, h⟩ := bd_some h
    refine fx_i X (fx_runV (As := [.int x1, .int (2 : Int32)]) X (m_Mod_is e1 _) hP hD kv_Mod_172 ⟨Nat.le_of_ble_eq_true rfl, Nat.le_of_ble_eq_true rfl⟩ 0 rfl rfl rfl hl.1 rfl (Nat.le_of_ble_eq_true rfl) d_Mod_removeDirectory_11) hD hS (fun H locs hP hD hS => ?_)
    refine lv_if_eq (tgt := 26) hx hb d_Mod_removeDirectory_14 (by decide) (fun hc => ?_) (fun hc => ?_)
    · have h := if_t hc h
      exact v_Mod_removeDirectory_26 X  hP hD hS (lv_sub hl [0, 1, 2] rfl) h
    · have h := if_f hc h
      refine lv_aload_n hx hb d_Mod_removeDirectory_17 rfl (lv_at hl 0 rfl) ?_
      refine lv_iconst (v := 0) hx hb d_Mod_removeDirectory_18 (by decide) ?_
      refine lv_iload_n hx hb d_Mod_removeDirectory_19 rfl (lv_at hl 2 rfl) ?_
      obtain ⟨v14, e1, h⟩ := bd_some h
      refine fx_i X (fx_runV (As := [.int (0 : Int32), .int x2]) X (m_Mod_isName e1 _) hP hD kv_Mod_176 ⟨Nat.le_of_ble_eq_true rfl, Nat.le_of_ble_eq_true rfl⟩ 0 rfl rfl rfl hl.1 rfl (Nat.le_of_ble_eq_true rfl) d_Mod_removeDirectory_20) hD hS (fun H locs hP hD hS => ?_)
      refine lv_if_ne (tgt := 30) hx hb d_Mod_removeDirectory_23 (by decide) (fun hc => ?_) (fun hc => ?_)
      · have h := if_f hc h
        refine lv_iconst (v := 0) hx hb d_Mod_removeDirectory_30 (by decide) ?_
        exact v_Mod_removeDirectory_31 X  hP hD hS (lv_sub hl [0, 1, 2] rfl) h
      · have h := if_t hc h
        exact v_Mod_removeDirectory_26 X  hP hD hS (lv_sub hl [0, 1, 2] rfl) h
  · have h := if_f hc h
    cases h
    exact fx_vret X hP hD hS d_Mod_removeDirectory_7
theorem d_Mod_isWithin_0 : decode prog_12_method_38_code 0 = .ok (.iload_n 1, 1) := by decide +kernel
theorem d_Mod_isWithin_1 : decode prog_12_method_38_code 1 = .ok (.istore_n 3, 1) := by decide +kernel
theorem d_Mod_isWithin_2 : decode prog_12_method_38_code 2 = .ok (.iload_n 3, 1) := by decide +kernel
theorem d_Mod_isWithin_3 : decode prog_12_method_38_code 3 = .ok (.iload_n 2, 1) := by decide +kernel
theorem d_Mod_isWithin_4 : decode prog_12_method_38_code 4 = .ok (.if_icmp .eq 39, 3) := by decide +kernel
theorem d_Mod_isWithin_7 : decode prog_12_method_38_code 7 = .ok (.iload_n 3, 1) := by decide +kernel
theorem d_Mod_isWithin_8 : decode prog_12_method_38_code 8 = .ok (.iconst 1, 1) := by decide +kernel
theorem d_Mod_isWithin_9 : decode prog_12_method_38_code 9 = .ok (.if_icmp .eq 34, 3) := by decide +kernel
theorem d_Mod_isWithin_12 : decode prog_12_method_38_code 12 = .ok (.iconst 0, 1) := by decide +kernel
theorem d_Mod_isWithin_13 : decode prog_12_method_38_code 13 = .ok (.istore 4, 2) := by decide +kernel
theorem d_Mod_isWithin_15 : decode prog_12_method_38_code 15 = .ok (.aload_n 0, 1) := by decide +kernel
theorem d_Mod_isWithin_16 : decode prog_12_method_38_code 16 = .ok (.getfield 54, 3) := by decide +kernel
theorem d_Mod_isWithin_19 : decode prog_12_method_38_code 19 = .ok (.iload 4, 2) := by decide +kernel
theorem d_Mod_isWithin_21 : decode prog_12_method_38_code 21 = .ok (.iaload, 1) := by decide +kernel
theorem d_Mod_isWithin_22 : decode prog_12_method_38_code 22 = .ok (.iload_n 3, 1) := by decide +kernel
theorem d_Mod_isWithin_23 : decode prog_12_method_38_code 23 = .ok (.if_icmp .eq 9, 3) := by decide +kernel
theorem d_Mod_isWithin_26 : decode prog_12_method_38_code 26 = .ok (.iinc 4 1, 3) := by decide +kernel
theorem d_Mod_isWithin_29 : decode prog_12_method_38_code 29 = .ok (.goto (-14), 3) := by decide +kernel
theorem d_Mod_isWithin_32 : decode prog_12_method_38_code 32 = .ok (.aload_n 0, 1) := by decide +kernel
theorem d_Mod_isWithin_33 : decode prog_12_method_38_code 33 = .ok (.getfield 51, 3) := by decide +kernel
theorem d_Mod_isWithin_36 : decode prog_12_method_38_code 36 = .ok (.iload 4, 2) := by decide +kernel
theorem d_Mod_isWithin_38 : decode prog_12_method_38_code 38 = .ok (.iaload, 1) := by decide +kernel
theorem d_Mod_isWithin_39 : decode prog_12_method_38_code 39 = .ok (.istore_n 3, 1) := by decide +kernel
theorem d_Mod_isWithin_40 : decode prog_12_method_38_code 40 = .ok (.goto (-38), 3) := by decide +kernel
theorem d_Mod_isWithin_43 : decode prog_12_method_38_code 43 = .ok (.iload_n 3, 1) := by decide +kernel
theorem d_Mod_isWithin_44 : decode prog_12_method_38_code 44 = .ok (.iload_n 2, 1) := by decide +kernel
theorem d_Mod_isWithin_45 : decode prog_12_method_38_code 45 = .ok (.if_icmp .ne 7, 3) := by decide +kernel
theorem d_Mod_isWithin_48 : decode prog_12_method_38_code 48 = .ok (.iconst 1, 1) := by decide +kernel
theorem d_Mod_isWithin_49 : decode prog_12_method_38_code 49 = .ok (.goto 4, 3) := by decide +kernel
theorem d_Mod_isWithin_52 : decode prog_12_method_38_code 52 = .ok (.iconst 0, 1) := by decide +kernel
theorem d_Mod_isWithin_53 : decode prog_12_method_38_code 53 = .ok (.ireturn, 1) := by decide +kernel
set_option maxHeartbeats 4000000 in
set_option maxRecDepth 100000 in
theorem v_Mod_isWithin_15 {p : Program} {l : Launch} {e : Env} {s : State} {m : MethodId} {args : Array Value} {below : List Frame} {meth : Method} {c : Code} {D : va_G} {ad : Nat → Nat} {ca : Nat → ClassId} {A : Nat → Prop} {FU : Nat} {q : Int32} {g : St} (X : FX p s m meth c prog_12_method_38_code 5 (some .boolean) "FlashFilesModel" D (tyM ca) A) {k2 : Int32 → Int32 → St → Option (Int32)} (hk2 : ∀ (y2 y3 : Int32) (H : Heap) (locs : List Loc) (ls : Array Slot), va_P D cls (wM ad ca g) H → va_D A (wM ad ca g) → va_S A s.heap H locs → lv_has ls 5 [(0, .ref (ad 0)), (2, .int y2), (3, .int y3)] → k2 y2 y3 g = some q → W p l e (rmN 1) s m args below meth c H locs 0 0 (MQ below (fxQi D (tyM ca) A (wM ad ca g) q) args s 0 0 A) (F0 m 2 ls [])) : ∀ (n : Nat), ∀ (y2 y3 y4 : Int32) (H : Heap) (locs : List Loc) (ls : Array Slot), va_P D cls (wM ad ca g) H → va_D A (wM ad ca g) → va_S A s.heap H locs → lv_has ls 5 [(0, .ref (ad 0)), (2, .int y2), (3, .int y3), (4, .int y4)] → Mod_isWithin_b15 FU k2 n y2 y3 y4 g = some q → W p l e (rmN 1) s m args below meth c H locs 0 0 (MQ below (fxQi D (tyM ca) A (wM ad ca g) q) args s 0 0 A) (F0 m 15 ls []) := by
  have hx := X.1
  have hb := X.2.1
  intro n
  induction n with
  | zero =>
    intro y2 y3 y4 H locs ls hP hD hS hl h
    cases h
  | succ n ih =>
    intro y2 y3 y4 H locs ls hP hD hS hl h
    have h := h
    rw [Mod_isWithin_b15.eq_2] at h
    refine lv_aload_n hx hb d_Mod_isWithin_15 rfl (lv_at hl 0 rfl) ?_
    refine gM_mod_entryId X hP d_Mod_isWithin_16 ?_
    refine lv_iload hx hb d_Mod_isWithin_19 (lv_at hl 3 rfl) ?_
    obtain ⟨v1, e1, h⟩ := bd_some h
    refine rM_12 X hP e1 d_Mod_isWithin_21 ?_
    refine lv_iload_n hx hb d_Mod_isWithin_22 rfl (lv_at hl 2 rfl) ?_
    refine lv_icmp_eq (tgt := 32) hx hb d_Mod_isWithin_23 (by decide) (fun hc => ?_) (fun hc => ?_)
    · have h := if_t hc h
      refine lv_aload_n hx hb d_Mod_isWithin_32 rfl (lv_at hl 0 rfl) ?_
      refine gM_mod_entryDirectory X hP d_Mod_isWithin_33 ?_
      refine lv_iload hx hb d_Mod_isWithin_36 (lv_at hl 3 rfl) ?_
      obtain ⟨v2, e1, h⟩ := bd_some h
      refine rM_11 X hP e1 d_Mod_isWithin_38 ?_
      refine lv_istore_n hx hb d_Mod_isWithin_39 rfl hl (by decide) rfl (fun ls hl => ?_)
      have hl : lv_has ls 5 [(3, .int v2), (0, .ref (ad 0)), (2, .int y2), (4, .int y4)] := hl
      refine lv_goto (tgt := 2) hx hb d_Mod_isWithin_40 (by decide) ?_
      exact hk2 _ _ _ _ _ hP hD hS (lv_sub hl [1, 2, 0] rfl) h
    · have h := if_f hc h
      refine lv_iinc (k := 3) (v := (y4 + (1 : Int32))) hx hb d_Mod_isWithin_26 hl rfl (oi_1 _) (by decide) rfl (fun ls hl => ?_)
      have hl : lv_has ls 5 [(4, .int (y4 + (1 : Int32))), (0, .ref (ad 0)), (2, .int y2), (3, .int y3)] := hl
      refine lv_goto (tgt := 15) hx hb d_Mod_isWithin_29 (by decide) ?_
      exact ih _ _ _ _ _ _ hP hD hS (lv_sub hl [1, 2, 3, 0] rfl) h
set_option maxHeartbeats 4000000 in
set_option maxRecDepth 100000 in
theorem v_Mod_isWithin_2 {p : Program} {l : Launch} {e : Env} {s : State} {m : MethodId} {args : Array Value} {below : List Frame} {meth : Method} {c : Code} {D : va_G} {ad : Nat → Nat} {ca : Nat → ClassId} {A : Nat → Prop} {FU : Nat} {q : Int32} {g : St} (X : FX p s m meth c prog_12_method_38_code 5 (some .boolean) "FlashFilesModel" D (tyM ca) A) : ∀ (n : Nat), ∀ (y2 y3 : Int32) (H : Heap) (locs : List Loc) (ls : Array Slot), va_P D cls (wM ad ca g) H → va_D A (wM ad ca g) → va_S A s.heap H locs → lv_has ls 5 [(0, .ref (ad 0)), (2, .int y2), (3, .int y3)] → Mod_isWithin_b2 FU n y2 y3 g = some q → W p l e (rmN 1) s m args below meth c H locs 0 0 (MQ below (fxQi D (tyM ca) A (wM ad ca g) q) args s 0 0 A) (F0 m 2 ls []) := by
  have hx := X.1
  have hb := X.2.1
  intro n
  induction n with
  | zero =>
    intro y2 y3 H locs ls hP hD hS hl h
    cases h
  | succ n ih =>
    intro y2 y3 H locs ls hP hD hS hl h
    have h := h
    rw [Mod_isWithin_b2.eq_2] at h
    refine lv_iload_n hx hb d_Mod_isWithin_2 rfl (lv_at hl 2 rfl) ?_
    refine lv_iload_n hx hb d_Mod_isWithin_3 rfl (lv_at hl 1 rfl) ?_
    refine lv_icmp_eq (tgt := 43) hx hb d_Mod_isWithin_4 (by decide) (fun hc => ?_) (fun hc => ?_)
    · have h := if_t hc h
      refine lv_iload_n hx hb d_Mod_isWithin_43 rfl (lv_at hl 2 rfl) ?_
      refine lv_iload_n hx hb d_Mod_isWithin_44 rfl (lv_at hl 1 rfl) ?_
      refine lv_icmp_ne (tgt := 52) hx hb d_Mod_isWithin_45 (by decide) (fun hc => ?_) (fun hc => ?_)
      · have h := if_f hc h
        refine lv_iconst (v := 0) hx hb d_Mod_isWithin_52 (by decide) ?_
        cases h
        exact fx_zret X hP hD hS (Or.inl rfl) d_Mod_isWithin_53
      · have h := if_t hc h
        refine lv_iconst (v := 1) hx hb d_Mod_isWithin_48 (by decide) ?_
        refine lv_goto (tgt := 53) hx hb d_Mod_isWithin_49 (by decide) ?_
        cases h
        exact fx_zret X hP hD hS (Or.inr rfl) d_Mod_isWithin_53
    · have h := if_f hc h
      refine lv_iload_n hx hb d_Mod_isWithin_7 rfl (lv_at hl 2 rfl) ?_
      refine lv_iconst (v := 1) hx hb d_Mod_isWithin_8 (by decide) ?_
      refine lv_icmp_eq (tgt := 43) hx hb d_Mod_isWithin_9 (by decide) (fun hc => ?_) (fun hc => ?_)
      · have h := if_t hc h
        refine lv_iload_n hx hb d_Mod_isWithin_43 rfl (lv_at hl 2 rfl) ?_
        refine lv_iload_n hx hb d_Mod_isWithin_44 rfl (lv_at hl 1 rfl) ?_
        refine lv_icmp_ne (tgt := 52) hx hb d_Mod_isWithin_45 (by decide) (fun hc => ?_) (fun hc => ?_)
        · have h := if_f hc h
          refine lv_iconst (v := 0) hx hb d_Mod_isWithin_52 (by decide) ?_
          cases h
          exact fx_zret X hP hD hS (Or.inl rfl) d_Mod_isWithin_53
        · have h := if_t hc h
          refine lv_iconst (v := 1) hx hb d_Mod_isWithin_48 (by decide) ?_
          refine lv_goto (tgt := 53) hx hb d_Mod_isWithin_49 (by decide) ?_
          cases h
          exact fx_zret X hP hD hS (Or.inr rfl) d_Mod_isWithin_53
      · have h := if_f hc h
        refine lv_iconst (v := 0) hx hb d_Mod_isWithin_12 (by decide) ?_
        refine lv_istore hx hb d_Mod_isWithin_13 hl (by decide) rfl (fun ls hl => ?_)
        have hl : lv_has ls 5 [(4, .int (0 : Int32)), (0, .ref (ad 0)), (2, .int y2), (3, .int y3)] := hl
        exact v_Mod_isWithin_15 X ih _ _ _ _ _ _ _ hP hD hS (lv_sub hl [1, 2, 3, 0] rfl) h
set_option maxHeartbeats 4000000 in
set_option maxRecDepth 100000 in
theorem m_Mod_isWithin {l : Launch} {D : va_G} {ad : Nat → Nat} {ca : Nat → ClassId} {FU : Nat} {x1 : Int32} {x2 : Int32} {g : St} {q : Int32} (h : Mod_isWithin FU x1 x2 g = some q) : CI l ⟨"FlashFilesModel", "isWithin", "(II)Z"⟩ prog_12_method_38_code 5 1 (some .boolean) D (tyM ca) (wM ad ca g) [.ref (ad 0), .int x1, .int x2] q (wM ad ca g) := by
  intro sz
  refine Met.fx (Qc := fun A => fxQi D (tyM ca) A (wM ad ca g) q) (by decide) (Nat.le_of_ble_eq_true rfl) ?_
  intro p e s m below meth c A ls X hP hD hl
  have hl : lv_has ls 5 [(0, .ref (ad 0)), (1, .int x1), (2, .int x2)] := hl
  have hS : va_S A s.heap s.heap [] := va_S.rf
  have hx := X.1
  have hb := X.2.1
  unfold Mod_isWithin at h
  refine lv_iload_n hx hb d_Mod_isWithin_0 rfl (lv_at hl 1 rfl) ?_
  refine lv_istore_n hx hb d_Mod_isWithin_1 rfl hl (by decide) rfl (fun ls hl => ?_)
  have hl : lv_has ls 5 [(3, .int x1), (0, .ref (ad 0)), (1, .int x1), (2, .int x2)] := hl
  exact v_Mod_isWithin_2 X  _ _ _ _ _ _ hP hD hS (lv_sub hl [1, 3, 0] rfl) h
theorem d_Mod_isRefused_0 : decode prog_12_method_39_code 0 = .ok (.iload_n 1, 1) := by decide +kernel
theorem d_Mod_isRefused_1 : decode prog_12_method_39_code 1 = .ok (.ifCond .ge 5, 3) := by decide +kernel
theorem d_Mod_isRefused_4 : decode prog_12_method_39_code 4 = .ok (.iconst 1, 1) := by decide +kernel
theorem d_Mod_isRefused_5 : decode prog_12_method_39_code 5 = .ok (.ireturn, 1) := by decide +kernel
theorem d_Mod_isRefused_6 : decode prog_12_method_39_code 6 = .ok (.iload_n 1, 1) := by decide +kernel
theorem d_Mod_isRefused_7 : decode prog_12_method_39_code 7 = .ok (.iload_n 2, 1) := by decide +kernel
theorem d_Mod_isRefused_8 : decode prog_12_method_39_code 8 = .ok (.if_icmp .ne 5, 3) := by decide +kernel
theorem d_Mod_isRefused_11 : decode prog_12_method_39_code 11 = .ok (.iconst 0, 1) := by decide +kernel
theorem d_Mod_isRefused_12 : decode prog_12_method_39_code 12 = .ok (.ireturn, 1) := by decide +kernel
theorem d_Mod_isRefused_13 : decode prog_12_method_39_code 13 = .ok (.aload_n 0, 1) := by decide +kernel
theorem d_Mod_isRefused_14 : decode prog_12_method_39_code 14 = .ok (.getfield 54, 3) := by decide +kernel
theorem d_Mod_isRefused_17 : decode prog_12_method_39_code 17 = .ok (.iload_n 1, 1) := by decide +kernel
theorem d_Mod_isRefused_18 : decode prog_12_method_39_code 18 = .ok (.iaload, 1) := by decide +kernel
theorem d_Mod_isRefused_19 : decode prog_12_method_39_code 19 = .ok (.istore 5, 2) := by decide +kernel
theorem d_Mod_isRefused_21 : decode prog_12_method_39_code 21 = .ok (.iload_n 2, 1) := by decide +kernel
theorem d_Mod_isRefused_22 : decode prog_12_method_39_code 22 = .ok (.ifCond .lt 50, 3) := by decide +kernel
theorem d_Mod_isRefused_25 : decode prog_12_method_39_code 25 = .ok (.aload_n 0, 1) := by decide +kernel
theorem d_Mod_isRefused_26 : decode prog_12_method_39_code 26 = .ok (.getfield 20, 3) := by decide +kernel
theorem d_Mod_isRefused_29 : decode prog_12_method_39_code 29 = .ok (.aload_n 0, 1) := by decide +kernel
theorem d_Mod_isRefused_30 : decode prog_12_method_39_code 30 = .ok (.getfield 54, 3) := by decide +kernel
theorem d_Mod_isRefused_33 : decode prog_12_method_39_code 33 = .ok (.iload_n 2, 1) := by decide +kernel
theorem d_Mod_isRefused_34 : decode prog_12_method_39_code 34 = .ok (.iaload, 1) := by decide +kernel
theorem d_Mod_isRefused_35 : decode prog_12_method_39_code 35 = .ok (.iaload, 1) := by decide +kernel
theorem d_Mod_isRefused_36 : decode prog_12_method_39_code 36 = .ok (.aload_n 0, 1) := by decide +kernel
theorem d_Mod_isRefused_37 : decode prog_12_method_39_code 37 = .ok (.getfield 20, 3) := by decide +kernel
theorem d_Mod_isRefused_40 : decode prog_12_method_39_code 40 = .ok (.iload 5, 2) := by decide +kernel
theorem d_Mod_isRefused_42 : decode prog_12_method_39_code 42 = .ok (.iaload, 1) := by decide +kernel
theorem d_Mod_isRefused_43 : decode prog_12_method_39_code 43 = .ok (.if_icmp .ne 27, 3) := by decide +kernel
theorem d_Mod_isRefused_46 : decode prog_12_method_39_code 46 = .ok (.aload_n 0, 1) := by decide +kernel
theorem d_Mod_isRefused_47 : decode prog_12_method_39_code 47 = .ok (.getfield 20, 3) := by decide +kernel
theorem d_Mod_isRefused_50 : decode prog_12_method_39_code 50 = .ok (.iload 5, 2) := by decide +kernel
theorem d_Mod_isRefused_52 : decode prog_12_method_39_code 52 = .ok (.iaload, 1) := by decide +kernel
theorem d_Mod_isRefused_53 : decode prog_12_method_39_code 53 = .ok (.iconst 2, 1) := by decide +kernel
theorem d_Mod_isRefused_54 : decode prog_12_method_39_code 54 = .ok (.if_icmp .ne 18, 3) := by decide +kernel
theorem d_Mod_isRefused_57 : decode prog_12_method_39_code 57 = .ok (.aload_n 0, 1) := by decide +kernel
theorem d_Mod_isRefused_58 : decode prog_12_method_39_code 58 = .ok (.aload_n 0, 1) := by decide +kernel
theorem d_Mod_isRefused_59 : decode prog_12_method_39_code 59 = .ok (.getfield 54, 3) := by decide +kernel
theorem d_Mod_isRefused_62 : decode prog_12_method_39_code 62 = .ok (.iload_n 2, 1) := by decide +kernel
theorem d_Mod_isRefused_63 : decode prog_12_method_39_code 63 = .ok (.iaload, 1) := by decide +kernel
theorem d_Mod_isRefused_64 : decode prog_12_method_39_code 64 = .ok (.invokevirtual 97, 3) := by decide +kernel
theorem d_Mod_isRefused_67 : decode prog_12_method_39_code 67 = .ok (.ifCond .le 5, 3) := by decide +kernel
theorem d_Mod_isRefused_70 : decode prog_12_method_39_code 70 = .ok (.iconst 1, 1) := by decide +kernel
theorem d_Mod_isRefused_71 : decode prog_12_method_39_code 71 = .ok (.ireturn, 1) := by decide +kernel
theorem d_Mod_isRefused_72 : decode prog_12_method_39_code 72 = .ok (.iload_n 2, 1) := by decide +kernel
theorem d_Mod_isRefused_73 : decode prog_12_method_39_code 73 = .ok (.ifCond .ge 22, 3) := by decide +kernel
theorem d_Mod_isRefused_76 : decode prog_12_method_39_code 76 = .ok (.iload 4, 2) := by decide +kernel
theorem d_Mod_isRefused_78 : decode prog_12_method_39_code 78 = .ok (.iload_n 3, 1) := by decide +kernel
theorem d_Mod_isRefused_79 : decode prog_12_method_39_code 79 = .ok (.if_icmp .eq 16, 3) := by decide +kernel
theorem d_Mod_isRefused_82 : decode prog_12_method_39_code 82 = .ok (.aload_n 0, 1) := by decide +kernel
theorem d_Mod_isRefused_83 : decode prog_12_method_39_code 83 = .ok (.iload 4, 2) := by decide +kernel
theorem d_Mod_isRefused_85 : decode prog_12_method_39_code 85 = .ok (.invokevirtual 97, 3) := by decide +kernel
theorem d_Mod_isRefused_88 : decode prog_12_method_39_code 88 = .ok (.bipush 48, 2) := by decide +kernel
theorem d_Mod_isRefused_90 : decode prog_12_method_39_code 90 = .ok (.if_icmp .ne 5, 3) := by decide +kernel
theorem d_Mod_isRefused_93 : decode prog_12_method_39_code 93 = .ok (.iconst 1, 1) := by decide +kernel
theorem d_Mod_isRefused_94 : decode prog_12_method_39_code 94 = .ok (.ireturn, 1) := by decide +kernel
theorem d_Mod_isRefused_95 : decode prog_12_method_39_code 95 = .ok (.aload_n 0, 1) := by decide +kernel
theorem d_Mod_isRefused_96 : decode prog_12_method_39_code 96 = .ok (.getfield 20, 3) := by decide +kernel
theorem d_Mod_isRefused_99 : decode prog_12_method_39_code 99 = .ok (.iload 5, 2) := by decide +kernel
theorem d_Mod_isRefused_101 : decode prog_12_method_39_code 101 = .ok (.iaload, 1) := by decide +kernel
theorem d_Mod_isRefused_102 : decode prog_12_method_39_code 102 = .ok (.iconst 2, 1) := by decide +kernel
theorem d_Mod_isRefused_103 : decode prog_12_method_39_code 103 = .ok (.if_icmp .ne 18, 3) := by decide +kernel
theorem d_Mod_isRefused_106 : decode prog_12_method_39_code 106 = .ok (.aload_n 0, 1) := by decide +kernel
theorem d_Mod_isRefused_107 : decode prog_12_method_39_code 107 = .ok (.iload 4, 2) := by decide +kernel
theorem d_Mod_isRefused_109 : decode prog_12_method_39_code 109 = .ok (.iload 5, 2) := by decide +kernel
theorem d_Mod_isRefused_111 : decode prog_12_method_39_code 111 = .ok (.invokevirtual 203, 3) := by decide +kernel
theorem d_Mod_isRefused_114 : decode prog_12_method_39_code 114 = .ok (.ifCond .eq 7, 3) := by decide +kernel
theorem d_Mod_isRefused_117 : decode prog_12_method_39_code 117 = .ok (.iconst 1, 1) := by decide +kernel
theorem d_Mod_isRefused_118 : decode prog_12_method_39_code 118 = .ok (.goto 4, 3) := by decide +kernel
theorem d_Mod_isRefused_121 : decode prog_12_method_39_code 121 = .ok (.iconst 0, 1) := by decide +kernel
theorem d_Mod_isRefused_122 : decode prog_12_method_39_code 122 = .ok (.ireturn, 1) := by decide +kernel
set_option maxHeartbeats 4000000 in
set_option maxRecDepth 100000 in
theorem v_Mod_isRefused_95 {p : Program} {l : Launch} {e : Env} {s : State} {m : MethodId} {args : Array Value} {below : List Frame} {meth : Method} {c : Code} {D : va_G} {ad : Nat → Nat} {ca : Nat → ClassId} {A : Nat → Prop} {FU : Nat} {q : Int32} {g : St} (X : FX p s m meth c prog_12_method_39_code 6 (some .boolean) "FlashFilesModel" D (tyM ca) A) {y4 : Int32} {y5 : Int32}  {H : Heap} {locs : List Loc} {ls : Array Slot} (hP : va_P D cls (wM ad ca g) H) (hD : va_D A (wM ad ca g)) (hS : va_S A s.heap H locs) (hl : lv_has ls 6 [(0, .ref (ad 0)), (4, .int y4), (5, .int y5)]) (h : Mod_isRefused_b95 FU y4 y5 g = some q) : W p l e (rmN 2) s m args below meth c H locs 0 0 (MQ below (fxQi D (tyM ca) A (wM ad ca g) q) args s 0 0 A) (F0 m 95 ls []) := by
  have hx := X.1
  have hb := X.2.1
  unfold Mod_isRefused_b95 at h
  refine lv_aload_n hx hb d_Mod_isRefused_95 rfl (lv_at hl 0 rfl) ?_
  refine gM_mod_kind X hP d_Mod_isRefused_96 ?_
  refine lv_iload hx hb d_Mod_isRefused_99 (lv_at hl 2 rfl) ?_
  obtain ⟨v1, e1, h⟩ := bd_some h
  refine rM_2 X hP e1 d_Mod_isRefused_101 ?_
  refine lv_iconst (v := 2) hx hb d_Mod_isRefused_102 (by decide) ?_
  refine lv_icmp_ne (tgt := 121) hx hb d_Mod_isRefused_103 (by decide) (fun hc => ?_) (fun hc => ?_)
  · have h := if_f hc h
    refine lv_iconst (v := 0) hx hb d_Mod_isRefused_121 (by decide) ?_
    cases h
    exact fx_zret X hP hD hS (Or.inl rfl) d_Mod_isRefused_122
  · have h := if_t hc h
    refine lv_aload_n hx hb d_Mod_isRefused_106 rfl (lv_at hl 0 rfl) ?_
    refine lv_iload hx hb d_Mod_isRefused_107 (lv_at hl 1 rfl) ?_
    refine lv_iload hx hb d_Mod_isRefused_109 (lv_at hl 2 rfl) ?_
    obtain ⟨v2, e1, h⟩ := bd_some h
    refine fx_i X (fx_runV (As := [.int y4, .int y5]) X (m_Mod_isWithin e1 _) hP hD kv_Mod_203 ⟨Nat.le_of_ble_eq_true rfl, Nat.le_of_ble_eq_true rfl⟩ 0 rfl rfl rfl hl.1 rfl (Nat.le_of_ble_eq_true rfl) d_Mod_isRefused_111) hD hS (fun H locs hP hD hS => ?_)
    refine lv_if_eq (tgt := 121) hx hb d_Mod_isRefused_114 (by decide) (fun hc => ?_) (fun hc => ?_)
    · have h := if_t hc h
      refine lv_iconst (v := 0) hx hb d_Mod_isRefused_121 (by decide) ?_
      cases h
      exact fx_zret X hP hD hS (Or.inl rfl) d_Mod_isRefused_122
    · have h := if_f hc h
      refine lv_iconst (v := 1) hx hb d_Mod_isRefused_117 (by decide) ?_
      refine lv_goto (tgt := 122) hx hb d_Mod_isRefused_118 (by decide) ?_
      cases h
      exact fx_zret X hP hD hS (Or.inr rfl) d_Mod_isRefused_122
set_option maxHeartbeats 4000000 in
set_option maxRecDepth 100000 in
theorem v_Mod_isRefused_72 {p : Program} {l : Launch} {e : Env} {s : State} {m : MethodId} {args : Array Value} {below : List Frame} {meth : Method} {c : Code} {D : va_G} {ad : Nat → Nat} {ca : Nat → ClassId} {A : Nat → Prop} {FU : Nat} {q : Int32} {g : St} (X : FX p s m meth c prog_12_method_39_code 6 (some .boolean) "FlashFilesModel" D (tyM ca) A) {y2 : Int32} {y3 : Int32} {y4 : Int32} {y5 : Int32}  {H : Heap} {locs : List Loc} {ls : Array Slot} (hP : va_P D cls (wM ad ca g) H) (hD : va_D A (wM ad ca g)) (hS : va_S A s.heap H locs) (hl : lv_has ls 6 [(0, .ref (ad 0)), (2, .int y2), (3, .int y3), (4, .int y4), (5, .int y5)]) (h : Mod_isRefused_b72 FU y2 y3 y4 y5 g = some q) : W p l e (rmN 2) s m args below meth c H locs 0 0 (MQ below (fxQi D (tyM ca) A (wM ad ca g) q) args s 0 0 A) (F0 m 72 ls []) := by
  have hx := X.1
  have hb := X.2.1
  unfold Mod_isRefused_b72 at h
  refine lv_iload_n hx hb d_Mod_isRefused_72 rfl (lv_at hl 1 rfl) ?_
  refine lv_if_ge (tgt := 95) hx hb d_Mod_isRefused_73 (by decide) (fun hc => ?_) (fun hc => ?_)
  · have h := if_t hc h
    exact v_Mod_isRefused_95 X  hP hD hS (lv_sub hl [0, 3, 4] rfl) h
  · have h := if_f hc h
    refine lv_iload hx hb d_Mod_isRefused_76 (lv_at hl 3 rfl) ?_
    refine lv_iload_n hx hb d_Mod_isRefused_78 rfl (lv_at hl 2 rfl) ?_
    refine lv_icmp_eq (tgt := 95) hx hb d_Mod_isRefused_79 (by decide) (fun hc => ?_) (fun hc => ?_)
    · have h := if_t hc h
      exact v_Mod_isRefused_95 X  hP hD hS (lv_sub hl [0, 3, 4] rfl) h
    · have h := if_f hc h
      refine lv_aload_n hx hb d_Mod_isRefused_82 rfl (lv_at hl 0 rfl) ?_
      refine lv_iload hx hb d_Mod_isRefused_83 (lv_at hl 3 rfl) ?_
      obtain ⟨v3, e1, h⟩ := bd_some h
      refine fx_i X (fx_runV (As := [.int y4]) X (m_Mod_namesOf e1 _) hP hD kv_Mod_97 ⟨Nat.le_of_ble_eq_true rfl, Nat.le_of_ble_eq_true rfl⟩ 0 rfl rfl rfl hl.1 rfl (Nat.le_of_ble_eq_true rfl) d_Mod_isRefused_85) hD hS (fun H locs hP hD hS => ?_)
      refine lv_bipush (v := 48) hx hb d_Mod_isRefused_88 (by decide) ?_
      refine lv_icmp_ne (tgt := 95) hx hb d_Mod_isRefused_90 (by decide) (fun hc => ?_) (fun hc => ?_)
      · have h := if_f hc h
        exact v_Mod_isRefused_95 X  hP hD hS (lv_sub hl [0, 3, 4] rfl) h
      · have h := if_t hc h
        refine lv_iconst (v := 1) hx hb d_Mod_isRefused_93 (by decide) ?_
        cases h
        exact fx_zret X hP hD hS (Or.inr rfl) d_Mod_isRefused_94
set_option maxHeartbeats 4000000 in
set_option maxRecDepth 100000 in
theorem m_Mod_isRefused {l : Launch} {D : va_G} {ad : Nat → Nat} {ca : Nat → ClassId} {FU : Nat} {x1 : Int32} {x2 : Int32} {x3 : Int32} {x4 : Int32} {g : St} {q : Int32} (h : Mod_isRefused FU x1 x2 x3 x4 g = some q) : CI l ⟨"FlashFilesModel", "isRefused", "(IIII)Z"⟩ prog_12_method_39_code 6 2 (some .boolean) D (tyM ca) (wM ad ca g) [.ref (ad 0), .int x1, .int x2, .int x3, .int x4] q (wM ad ca g) := by
  intro sz
  refine Met.fx (Qc := fun A => fxQi D (tyM ca) A (wM ad ca g) q) (by decide) (Nat.le_of_ble_eq_true rfl) ?_
  intro p e s m below meth c A ls X hP hD hl
  have hl : lv_has ls 6 [(0, .ref (ad 0)), (1, .int x1), (2, .int x2), (3, .int x3), (4, .int x4)] := hl
  have hS : va_S A s.heap s.heap [] := va_S.rf
  have hx := X.1
  have hb := X.2.1
  unfold Mod_isRefused at h
  refine lv_iload_n hx hb d_Mod_isRefused_0 rfl (lv_at hl 1 rfl) ?_
  refine lv_if_ge (tgt := 6) hx hb d_Mod_isRefused_1 (by decide) (fun hc => ?_) (fun hc => ?_)
  · have h := if_t hc h
    refine lv_iload_n hx hb d_Mod_isRefused_6 rfl (lv_at hl 1 rfl) ?_
    refine lv_iload_n hx hb d_Mod_isRefused_7 rfl (lv_at hl 2 rfl) ?_
    refine lv_icmp_ne (tgt := 13) hx hb d_Mod_isRefused_8 (by decide) (fun hc => ?_) (fun hc => ?_)
    · have h := if_f hc h
      refine lv_aload_n hx hb d_Mod_isRefused_13 rfl (lv_at hl 0 rfl) ?_
      refine gM_mod_entryId X hP d_Mod_isRefused_14 ?_
      refine lv_iload_n hx hb d_Mod_isRefused_17 rfl (lv_at hl 1 rfl) ?_
      obtain ⟨v4, e1, h⟩ := bd_some h
      refine rM_12 X hP e1 d_Mod_isRefused_18 ?_
      refine lv_istore hx hb d_Mod_isRefused_19 hl (by decide) rfl (fun ls hl => ?_)
      have hl : lv_has ls 6 [(5, .int v4), (0, .ref (ad 0)), (1, .int x1), (2, .int x2), (3, .int x3), (4, .int x4)] := hl
      refine lv_iload_n hx hb d_Mod_isRefused_21 rfl (lv_at hl 3 rfl) ?_
      refine lv_if_lt (tgt := 72) hx hb d_Mod_isRefused_22 (by decide) (fun hc => ?_) (fun hc => ?_)
      · have h := if_t hc h
        exact v_Mod_isRefused_72 X  hP hD hS (lv_sub hl [1, 3, 4, 5, 0] rfl) h
      · have h := if_f hc h
        refine lv_aload_n hx hb d_Mod_isRefused_25 rfl (lv_at hl 1 rfl) ?_
        refine gM_mod_kind X hP d_Mod_isRefused_26 ?_
        refine lv_aload_n hx hb d_Mod_isRefused_29 rfl (lv_at hl 1 rfl) ?_
        refine gM_mod_entryId X hP d_Mod_isRefused_30 ?_
        refine lv_iload_n hx hb d_Mod_isRefused_33 rfl (lv_at hl 3 rfl) ?_
        obtain ⟨v5, e1, h⟩ := bd_some h
        refine rM_12 X hP e1 d_Mod_isRefused_34 ?_
        obtain ⟨v6, e1, h⟩ := bd_some h
        refine rM_2 X hP e1 d_Mod_isRefused_35 ?_
        refine lv_aload_n hx hb d_Mod_isRefused_36 rfl (lv_at hl 1 rfl) ?_
        refine gM_mod_kind X hP d_Mod_isRefused_37 ?_
        refine lv_iload hx hb d_Mod_isRefused_40 (lv_at hl 0 rfl) ?_
        obtain ⟨v7, e1, h⟩ := bd_some h
        refine rM_2 X hP e1 d_Mod_isRefused_42 ?_
        refine lv_icmp_ne (tgt := 70) hx hb d_Mod_isRefused_43 (by decide) (fun hc => ?_) (fun hc => ?_)
        · have h := if_f hc h
          refine lv_iconst (v := 1) hx hb d_Mod_isRefused_70 (by decide) ?_
          cases h
          exact fx_zret X hP hD hS (Or.inr rfl) d_Mod_isRefused_71
        · have h := if_t hc h
          refine lv_aload_n hx hb d_Mod_isRefused_46 rfl (lv_at hl 1 rfl) ?_
          refine gM_mod_kind X hP d_Mod_isRefused_47 ?_
          refine lv_iload hx hb d_Mod_isRefused_50 (lv_at hl 0 rfl) ?_
          obtain ⟨v8, e1, h⟩ := bd_some h
          refine rM_2 X hP e1 d_Mod_isRefused_52 ?_
          refine lv_iconst (v := 2) hx hb d_Mod_isRefused_53 (by decide) ?_
          refine lv_icmp_ne (tgt := 72) hx hb d_Mod_isRefused_54 (by decide) (fun hc => ?_) (fun hc => ?_)
          · have h := if_f hc h
            exact v_Mod_isRefused_72 X  hP hD hS (lv_sub hl [1, 3, 4, 5, 0] rfl) h
          · have h := if_t hc h
            refine lv_aload_n hx hb d_Mod_isRefused_57 rfl (lv_at hl 1 rfl) ?_
            refine lv_aload_n hx hb d_Mod_isRefused_58 rfl (lv_at hl 1 rfl) ?_
            refine gM_mod_entryId X hP d_Mod_isRefused_59 ?_
            refine lv_iload_n hx hb d_Mod_isRefused_62 rfl (lv_at hl 3 rfl) ?_
            obtain ⟨v9, e1, h⟩ := bd_some h
            refine rM_12 X hP e1 d_Mod_isRefused_63 ?_
            obtain ⟨v10, e1, h⟩ := bd_some h
            refine fx_i X (fx_runV (As := [.int v9]) X (m_Mod_namesOf e1 _) hP hD kv_Mod_97 ⟨Nat.le_of_ble_eq_true rfl, Nat.le_of_ble_eq_true rfl⟩ 0 rfl rfl rfl hl.1 rfl (Nat.le_of_ble_eq_true rfl) d_Mod_isRefused_64) hD hS (fun H locs hP hD hS => ?_)
            refine lv_if_le (tgt := 72) hx hb d_Mod_isRefused_67 (by decide) (fun hc => ?_) (fun hc => ?_)
            · have h := if_t hc h
              exact v_Mod_isRefused_72 X  hP hD hS (lv_sub hl [1, 3, 4, 5, 0] rfl) h
            · have h := if_f hc h
              refine lv_iconst (v := 1) hx hb d_Mod_isRefused_70 (by decide) ?_
              cases h
              exact fx_zret X hP hD hS (Or.inr rfl) d_Mod_isRefused_71
    · have h := if_t hc h
      refine lv_iconst (v := 0) hx hb d_Mod_isRefused_11 (by decide) ?_
      cases h
      exact fx_zret X hP hD hS (Or.inl rfl) d_Mod_isRefused_12
  · have h := if_f hc h
    refine lv_iconst (v := 1) hx hb d_Mod_isRefused_4 (by decide) ?_
    cases h
    exact fx_zret X hP hD hS (Or.inr rfl) d_Mod_isRefused_5
theorem d_Mod_rename_0 : decode prog_12_method_40_code 0 = .ok (.aload_n 0, 1) := by decide +kernel
theorem d_Mod_rename_1 : decode prog_12_method_40_code 1 = .ok (.invokevirtual 169, 3) := by decide +kernel
theorem d_Mod_rename_4 : decode prog_12_method_40_code 4 = .ok (.ifCond .eq 4, 3) := by decide +kernel
theorem d_Mod_rename_7 : decode prog_12_method_40_code 7 = .ok (.return_, 1) := by decide +kernel
theorem d_Mod_rename_8 : decode prog_12_method_40_code 8 = .ok (.aload_n 0, 1) := by decide +kernel
theorem d_Mod_rename_9 : decode prog_12_method_40_code 9 = .ok (.iload_n 1, 1) := by decide +kernel
theorem d_Mod_rename_10 : decode prog_12_method_40_code 10 = .ok (.iconst 2, 1) := by decide +kernel
theorem d_Mod_rename_11 : decode prog_12_method_40_code 11 = .ok (.invokevirtual 172, 3) := by decide +kernel
theorem d_Mod_rename_14 : decode prog_12_method_40_code 14 = .ok (.ifCond .eq 31, 3) := by decide +kernel
theorem d_Mod_rename_17 : decode prog_12_method_40_code 17 = .ok (.aload_n 0, 1) := by decide +kernel
theorem d_Mod_rename_18 : decode prog_12_method_40_code 18 = .ok (.iload_n 3, 1) := by decide +kernel
theorem d_Mod_rename_19 : decode prog_12_method_40_code 19 = .ok (.iconst 2, 1) := by decide +kernel
theorem d_Mod_rename_20 : decode prog_12_method_40_code 20 = .ok (.invokevirtual 172, 3) := by decide +kernel
theorem d_Mod_rename_23 : decode prog_12_method_40_code 23 = .ok (.ifCond .eq 22, 3) := by decide +kernel
theorem d_Mod_rename_26 : decode prog_12_method_40_code 26 = .ok (.aload_n 0, 1) := by decide +kernel
theorem d_Mod_rename_27 : decode prog_12_method_40_code 27 = .ok (.iconst 0, 1) := by decide +kernel
theorem d_Mod_rename_28 : decode prog_12_method_40_code 28 = .ok (.iload_n 2, 1) := by decide +kernel
theorem d_Mod_rename_29 : decode prog_12_method_40_code 29 = .ok (.invokevirtual 176, 3) := by decide +kernel
theorem d_Mod_rename_32 : decode prog_12_method_40_code 32 = .ok (.ifCond .eq 13, 3) := by decide +kernel
theorem d_Mod_rename_35 : decode prog_12_method_40_code 35 = .ok (.aload_n 0, 1) := by decide +kernel
theorem d_Mod_rename_36 : decode prog_12_method_40_code 36 = .ok (.iload_n 2, 1) := by decide +kernel
theorem d_Mod_rename_37 : decode prog_12_method_40_code 37 = .ok (.iload 4, 2) := by decide +kernel
theorem d_Mod_rename_39 : decode prog_12_method_40_code 39 = .ok (.invokevirtual 176, 3) := by decide +kernel
theorem d_Mod_rename_42 : decode prog_12_method_40_code 42 = .ok (.ifCond .ne 7, 3) := by decide +kernel
theorem d_Mod_rename_45 : decode prog_12_method_40_code 45 = .ok (.iconst 1, 1) := by decide +kernel
theorem d_Mod_rename_46 : decode prog_12_method_40_code 46 = .ok (.goto 4, 3) := by decide +kernel
theorem d_Mod_rename_49 : decode prog_12_method_40_code 49 = .ok (.iconst 0, 1) := by decide +kernel
theorem d_Mod_rename_50 : decode prog_12_method_40_code 50 = .ok (.istore 5, 2) := by decide +kernel
theorem d_Mod_rename_52 : decode prog_12_method_40_code 52 = .ok (.iload 5, 2) := by decide +kernel
theorem d_Mod_rename_54 : decode prog_12_method_40_code 54 = .ok (.ifCond .eq 7, 3) := by decide +kernel
theorem d_Mod_rename_57 : decode prog_12_method_40_code 57 = .ok (.iconst (-1), 1) := by decide +kernel
theorem d_Mod_rename_58 : decode prog_12_method_40_code 58 = .ok (.goto 10, 3) := by decide +kernel
theorem d_Mod_rename_61 : decode prog_12_method_40_code 61 = .ok (.aload_n 0, 1) := by decide +kernel
theorem d_Mod_rename_62 : decode prog_12_method_40_code 62 = .ok (.iload_n 1, 1) := by decide +kernel
theorem d_Mod_rename_63 : decode prog_12_method_40_code 63 = .ok (.iconst 0, 1) := by decide +kernel
theorem d_Mod_rename_64 : decode prog_12_method_40_code 64 = .ok (.iload_n 2, 1) := by decide +kernel
theorem d_Mod_rename_65 : decode prog_12_method_40_code 65 = .ok (.invokevirtual 179, 3) := by decide +kernel
theorem d_Mod_rename_68 : decode prog_12_method_40_code 68 = .ok (.istore 6, 2) := by decide +kernel
theorem d_Mod_rename_70 : decode prog_12_method_40_code 70 = .ok (.iload 5, 2) := by decide +kernel
theorem d_Mod_rename_72 : decode prog_12_method_40_code 72 = .ok (.ifCond .eq 7, 3) := by decide +kernel
theorem d_Mod_rename_75 : decode prog_12_method_40_code 75 = .ok (.iconst (-1), 1) := by decide +kernel
theorem d_Mod_rename_76 : decode prog_12_method_40_code 76 = .ok (.goto 11, 3) := by decide +kernel
theorem d_Mod_rename_79 : decode prog_12_method_40_code 79 = .ok (.aload_n 0, 1) := by decide +kernel
theorem d_Mod_rename_80 : decode prog_12_method_40_code 80 = .ok (.iload_n 3, 1) := by decide +kernel
theorem d_Mod_rename_81 : decode prog_12_method_40_code 81 = .ok (.iload_n 2, 1) := by decide +kernel
theorem d_Mod_rename_82 : decode prog_12_method_40_code 82 = .ok (.iload 4, 2) := by decide +kernel
theorem d_Mod_rename_84 : decode prog_12_method_40_code 84 = .ok (.invokevirtual 179, 3) := by decide +kernel
theorem d_Mod_rename_87 : decode prog_12_method_40_code 87 = .ok (.istore 7, 2) := by decide +kernel
theorem d_Mod_rename_89 : decode prog_12_method_40_code 89 = .ok (.iload 5, 2) := by decide +kernel
theorem d_Mod_rename_91 : decode prog_12_method_40_code 91 = .ok (.ifCond .ne 16, 3) := by decide +kernel
theorem d_Mod_rename_94 : decode prog_12_method_40_code 94 = .ok (.aload_n 0, 1) := by decide +kernel
theorem d_Mod_rename_95 : decode prog_12_method_40_code 95 = .ok (.iload 6, 2) := by decide +kernel
theorem d_Mod_rename_97 : decode prog_12_method_40_code 97 = .ok (.iload 7, 2) := by decide +kernel
theorem d_Mod_rename_99 : decode prog_12_method_40_code 99 = .ok (.iload_n 1, 1) := by decide +kernel
theorem d_Mod_rename_100 : decode prog_12_method_40_code 100 = .ok (.iload_n 3, 1) := by decide +kernel
theorem d_Mod_rename_101 : decode prog_12_method_40_code 101 = .ok (.invokevirtual 206, 3) := by decide +kernel
theorem d_Mod_rename_104 : decode prog_12_method_40_code 104 = .ok (.ifCond .eq 7, 3) := by decide +kernel
theorem d_Mod_rename_107 : decode prog_12_method_40_code 107 = .ok (.iconst 1, 1) := by decide +kernel
theorem d_Mod_rename_108 : decode prog_12_method_40_code 108 = .ok (.goto 4, 3) := by decide +kernel
theorem d_Mod_rename_111 : decode prog_12_method_40_code 111 = .ok (.iconst 0, 1) := by decide +kernel
theorem d_Mod_rename_112 : decode prog_12_method_40_code 112 = .ok (.istore 8, 2) := by decide +kernel
theorem d_Mod_rename_114 : decode prog_12_method_40_code 114 = .ok (.aload_n 0, 1) := by decide +kernel
theorem d_Mod_rename_115 : decode prog_12_method_40_code 115 = .ok (.invokevirtual 185, 3) := by decide +kernel
theorem d_Mod_rename_118 : decode prog_12_method_40_code 118 = .ok (.aload_n 0, 1) := by decide +kernel
theorem d_Mod_rename_119 : decode prog_12_method_40_code 119 = .ok (.iload 5, 2) := by decide +kernel
theorem d_Mod_rename_121 : decode prog_12_method_40_code 121 = .ok (.iload 8, 2) := by decide +kernel
theorem d_Mod_rename_123 : decode prog_12_method_40_code 123 = .ok (.invokevirtual 148, 3) := by decide +kernel
theorem d_Mod_rename_126 : decode prog_12_method_40_code 126 = .ok (.ifCond .ne 12, 3) := by decide +kernel
theorem d_Mod_rename_129 : decode prog_12_method_40_code 129 = .ok (.aload_n 0, 1) := by decide +kernel
theorem d_Mod_rename_130 : decode prog_12_method_40_code 130 = .ok (.bipush 8, 2) := by decide +kernel
theorem d_Mod_rename_132 : decode prog_12_method_40_code 132 = .ok (.invokevirtual 188, 3) := by decide +kernel
theorem d_Mod_rename_135 : decode prog_12_method_40_code 135 = .ok (.ifCond .eq 4, 3) := by decide +kernel
theorem d_Mod_rename_138 : decode prog_12_method_40_code 138 = .ok (.return_, 1) := by decide +kernel
theorem d_Mod_rename_139 : decode prog_12_method_40_code 139 = .ok (.aload_n 0, 1) := by decide +kernel
theorem d_Mod_rename_140 : decode prog_12_method_40_code 140 = .ok (.getfield 54, 3) := by decide +kernel
theorem d_Mod_rename_143 : decode prog_12_method_40_code 143 = .ok (.iload 6, 2) := by decide +kernel
theorem d_Mod_rename_145 : decode prog_12_method_40_code 145 = .ok (.iaload, 1) := by decide +kernel
theorem d_Mod_rename_146 : decode prog_12_method_40_code 146 = .ok (.istore 9, 2) := by decide +kernel
theorem d_Mod_rename_148 : decode prog_12_method_40_code 148 = .ok (.iload 7, 2) := by decide +kernel
theorem d_Mod_rename_150 : decode prog_12_method_40_code 150 = .ok (.ifCond .lt 16, 3) := by decide +kernel
theorem d_Mod_rename_153 : decode prog_12_method_40_code 153 = .ok (.aload_n 0, 1) := by decide +kernel
theorem d_Mod_rename_154 : decode prog_12_method_40_code 154 = .ok (.getfield 54, 3) := by decide +kernel
theorem d_Mod_rename_157 : decode prog_12_method_40_code 157 = .ok (.iload 7, 2) := by decide +kernel
theorem d_Mod_rename_159 : decode prog_12_method_40_code 159 = .ok (.iaload, 1) := by decide +kernel
theorem d_Mod_rename_160 : decode prog_12_method_40_code 160 = .ok (.iload 9, 2) := by decide +kernel
theorem d_Mod_rename_162 : decode prog_12_method_40_code 162 = .ok (.if_icmp .ne 4, 3) := by decide +kernel
theorem d_Mod_rename_165 : decode prog_12_method_40_code 165 = .ok (.return_, 1) := by decide +kernel
theorem d_Mod_rename_166 : decode prog_12_method_40_code 166 = .ok (.aload_n 0, 1) := by decide +kernel
theorem d_Mod_rename_167 : decode prog_12_method_40_code 167 = .ok (.getfield 37, 3) := by decide +kernel
theorem d_Mod_rename_170 : decode prog_12_method_40_code 170 = .ok (.iload 9, 2) := by decide +kernel
theorem d_Mod_rename_172 : decode prog_12_method_40_code 172 = .ok (.iconst 1, 1) := by decide +kernel
theorem d_Mod_rename_173 : decode prog_12_method_40_code 173 = .ok (.bastore, 1) := by decide +kernel
theorem d_Mod_rename_174 : decode prog_12_method_40_code 174 = .ok (.iload 7, 2) := by decide +kernel
theorem d_Mod_rename_176 : decode prog_12_method_40_code 176 = .ok (.ifCond .ge 14, 3) := by decide +kernel
theorem d_Mod_rename_179 : decode prog_12_method_40_code 179 = .ok (.aload_n 0, 1) := by decide +kernel
theorem d_Mod_rename_180 : decode prog_12_method_40_code 180 = .ok (.iload 6, 2) := by decide +kernel
theorem d_Mod_rename_182 : decode prog_12_method_40_code 182 = .ok (.iload_n 3, 1) := by decide +kernel
theorem d_Mod_rename_183 : decode prog_12_method_40_code 183 = .ok (.iload_n 2, 1) := by decide +kernel
theorem d_Mod_rename_184 : decode prog_12_method_40_code 184 = .ok (.iload 4, 2) := by decide +kernel
theorem d_Mod_rename_186 : decode prog_12_method_40_code 186 = .ok (.invokevirtual 165, 3) := by decide +kernel
theorem d_Mod_rename_189 : decode prog_12_method_40_code 189 = .ok (.return_, 1) := by decide +kernel
theorem d_Mod_rename_190 : decode prog_12_method_40_code 190 = .ok (.aload_n 0, 1) := by decide +kernel
theorem d_Mod_rename_191 : decode prog_12_method_40_code 191 = .ok (.getfield 54, 3) := by decide +kernel
theorem d_Mod_rename_194 : decode prog_12_method_40_code 194 = .ok (.iload 7, 2) := by decide +kernel
theorem d_Mod_rename_196 : decode prog_12_method_40_code 196 = .ok (.iaload, 1) := by decide +kernel
theorem d_Mod_rename_197 : decode prog_12_method_40_code 197 = .ok (.istore 10, 2) := by decide +kernel
theorem d_Mod_rename_199 : decode prog_12_method_40_code 199 = .ok (.aload_n 0, 1) := by decide +kernel
theorem d_Mod_rename_200 : decode prog_12_method_40_code 200 = .ok (.getfield 54, 3) := by decide +kernel
theorem d_Mod_rename_203 : decode prog_12_method_40_code 203 = .ok (.iload 7, 2) := by decide +kernel
theorem d_Mod_rename_205 : decode prog_12_method_40_code 205 = .ok (.iload 9, 2) := by decide +kernel
theorem d_Mod_rename_207 : decode prog_12_method_40_code 207 = .ok (.iastore, 1) := by decide +kernel
theorem d_Mod_rename_208 : decode prog_12_method_40_code 208 = .ok (.aload_n 0, 1) := by decide +kernel
theorem d_Mod_rename_209 : decode prog_12_method_40_code 209 = .ok (.iload 6, 2) := by decide +kernel
theorem d_Mod_rename_211 : decode prog_12_method_40_code 211 = .ok (.invokevirtual 197, 3) := by decide +kernel
theorem d_Mod_rename_214 : decode prog_12_method_40_code 214 = .ok (.aload_n 0, 1) := by decide +kernel
theorem d_Mod_rename_215 : decode prog_12_method_40_code 215 = .ok (.getfield 20, 3) := by decide +kernel
theorem d_Mod_rename_218 : decode prog_12_method_40_code 218 = .ok (.iload 10, 2) := by decide +kernel
theorem d_Mod_rename_220 : decode prog_12_method_40_code 220 = .ok (.iaload, 1) := by decide +kernel
theorem d_Mod_rename_221 : decode prog_12_method_40_code 221 = .ok (.iconst 1, 1) := by decide +kernel
theorem d_Mod_rename_222 : decode prog_12_method_40_code 222 = .ok (.if_icmp .ne 13, 3) := by decide +kernel
theorem d_Mod_rename_225 : decode prog_12_method_40_code 225 = .ok (.aload_n 0, 1) := by decide +kernel
theorem d_Mod_rename_226 : decode prog_12_method_40_code 226 = .ok (.iload 10, 2) := by decide +kernel
theorem d_Mod_rename_228 : decode prog_12_method_40_code 228 = .ok (.invokevirtual 200, 3) := by decide +kernel
theorem d_Mod_rename_231 : decode prog_12_method_40_code 231 = .ok (.pop, 1) := by decide +kernel
theorem d_Mod_rename_232 : decode prog_12_method_40_code 232 = .ok (.goto 10, 3) := by decide +kernel
theorem d_Mod_rename_235 : decode prog_12_method_40_code 235 = .ok (.aload_n 0, 1) := by decide +kernel
theorem d_Mod_rename_236 : decode prog_12_method_40_code 236 = .ok (.iload 10, 2) := by decide +kernel
theorem d_Mod_rename_238 : decode prog_12_method_40_code 238 = .ok (.iconst 0, 1) := by decide +kernel
theorem d_Mod_rename_239 : decode prog_12_method_40_code 239 = .ok (.invokevirtual 119, 3) := by decide +kernel
theorem d_Mod_rename_242 : decode prog_12_method_40_code 242 = .ok (.return_, 1) := by decide +kernel
set_option maxHeartbeats 4000000 in
set_option maxRecDepth 100000 in
theorem v_Mod_rename_166 {p : Program} {l : Launch} {e : Env} {s : State} {m : MethodId} {args : Array Value} {below : List Frame} {meth : Method} {c : Code} {D : va_G} {ad : Nat → Nat} {ca : Nat → ClassId} {A : Nat → Prop} {FU : Nat} {q : St} (X : FX p s m meth c prog_12_method_40_code 11 none "FlashFilesModel" D (tyM ca) A) {y2 : Int32} {y3 : Int32} {y4 : Int32} {y6 : Int32} {y7 : Int32} {y9 : Int32} {g : St} {H : Heap} {locs : List Loc} {ls : Array Slot} (hP : va_P D cls (wM ad ca g) H) (hD : va_D A (wM ad ca g)) (hS : va_S A s.heap H locs) (hl : lv_has ls 11 [(0, .ref (ad 0)), (2, .int y2), (3, .int y3), (4, .int y4), (6, .int y6), (7, .int y7), (9, .int y9)]) (h : Mod_rename_b166 FU y2 y3 y4 y6 y7 y9 g = some q) : W p l e (rmN 6) s m args below meth c H locs 0 0 (MQ below (fxQv D (tyM ca) A (wM ad ca q)) args s 0 0 A) (F0 m 166 ls []) := by
  have hx := X.1
  have hb := X.2.1
  unfold Mod_rename_b166 at h
  refine lv_aload_n hx hb d_Mod_rename_166 rfl (lv_at hl 0 rfl) ?_
  refine gM_mod_renamed X hP d_Mod_rename_167 ?_
  refine lv_iload hx hb d_Mod_rename_170 (lv_at hl 6 rfl) ?_
  refine lv_iconst (v := 1) hx hb d_Mod_rename_172 (by decide) ?_
  obtain ⟨g1, e1, h⟩ := bd_some h
  refine sM_7 X hP hD hS e1 d_Mod_rename_173 (fun H locs hP hD hS => ?_)
  refine lv_iload hx hb d_Mod_rename_174 (lv_at hl 5 rfl) ?_
  refine lv_if_ge (tgt := 190) hx hb d_Mod_rename_176 (by decide) (fun hc => ?_) (fun hc => ?_)
  · have h := if_t hc h
    refine lv_aload_n hx hb d_Mod_rename_190 rfl (lv_at hl 0 rfl) ?_
    refine gM_mod_entryId X hP d_Mod_rename_191 ?_
    refine lv_iload hx hb d_Mod_rename_194 (lv_at hl 5 rfl) ?_
    obtain ⟨v2, e1, h⟩ := bd_some h
    refine rM_12 X hP e1 d_Mod_rename_196 ?_
    refine lv_istore hx hb d_Mod_rename_197 hl (by decide) rfl (fun ls hl => ?_)
    have hl : lv_has ls 11 [(10, .int v2), (0, .ref (ad 0)), (2, .int y2), (3, .int y3), (4, .int y4), (6, .int y6), (7, .int y7), (9, .int y9)] := hl
    refine lv_aload_n hx hb d_Mod_rename_199 rfl (lv_at hl 1 rfl) ?_
    refine gM_mod_entryId X hP d_Mod_rename_200 ?_
    refine lv_iload hx hb d_Mod_rename_203 (lv_at hl 6 rfl) ?_
    refine lv_iload hx hb d_Mod_rename_205 (lv_at hl 7 rfl) ?_
    obtain ⟨g3, e1, h⟩ := bd_some h
    refine sM_12 X hP hD hS e1 d_Mod_rename_207 (fun H locs hP hD hS => ?_)
    refine lv_aload_n hx hb d_Mod_rename_208 rfl (lv_at hl 1 rfl) ?_
    refine lv_iload hx hb d_Mod_rename_209 (lv_at hl 5 rfl) ?_
    obtain ⟨p4, e1, h⟩ := bd_some h
    refine fx_v X (fx_runV (As := [.int y6]) X (m_Mod_removeEntry e1 _) hP hD kv_Mod_197 ⟨Nat.le_of_ble_eq_true rfl, Nat.le_of_ble_eq_true rfl⟩ 0 rfl rfl rfl hl.1 rfl (Nat.le_of_ble_eq_true rfl) d_Mod_rename_211) hD hS (fun H locs hP hD hS => ?_)
    refine lv_aload_n hx hb d_Mod_rename_214 rfl (lv_at hl 1 rfl) ?_
    refine gM_mod_kind X hP d_Mod_rename_215 ?_
    refine lv_iload hx hb d_Mod_rename_218 (lv_at hl 0 rfl) ?_
    obtain ⟨v5, e1, h⟩ := bd_some h
    refine rM_2 X hP e1 d_Mod_rename_220 ?_
    refine lv_iconst (v := 1) hx hb d_Mod_rename_221 (by decide) ?_
    refine lv_icmp_ne (tgt := 235) hx hb d_Mod_rename_222 (by decide) (fun hc => ?_) (fun hc => ?_)
    · have h := if_f hc h
      refine lv_aload_n hx hb d_Mod_rename_235 rfl (lv_at hl 1 rfl) ?_
      refine lv_iload hx hb d_Mod_rename_236 (lv_at hl 0 rfl) ?_
      refine lv_iconst (v := 0) hx hb d_Mod_rename_238 (by decide) ?_
      obtain ⟨p6, e1, h⟩ := bd_some h
      refine fx_v X (fx_runV (As := [.int v2, .int (0 : Int32)]) X (m_Mod_drop e1 _) hP hD kv_Mod_119 ⟨Nat.le_of_ble_eq_true rfl, Nat.le_of_ble_eq_true rfl⟩ 0 rfl rfl rfl hl.1 rfl (Nat.le_of_ble_eq_true rfl) d_Mod_rename_239) hD hS (fun H locs hP hD hS => ?_)
      cases h
      exact fx_vret X hP hD hS d_Mod_rename_242
    · have h := if_t hc h
      refine lv_aload_n hx hb d_Mod_rename_225 rfl (lv_at hl 1 rfl) ?_
      refine lv_iload hx hb d_Mod_rename_226 (lv_at hl 0 rfl) ?_
      obtain ⟨p7, e1, h⟩ := bd_some h
      refine fx_i X (fx_runV (As := [.int v2]) X (m_Mod_loosen e1 _) hP hD kv_Mod_200 ⟨Nat.le_of_ble_eq_true rfl, Nat.le_of_ble_eq_true rfl⟩ 0 rfl rfl rfl hl.1 rfl (Nat.le_of_ble_eq_true rfl) d_Mod_rename_228) hD hS (fun H locs hP hD hS => ?_)
      refine lv_pop hx hb d_Mod_rename_231 rfl ?_
      refine lv_goto (tgt := 242) hx hb d_Mod_rename_232 (by decide) ?_
      cases h
      exact fx_vret X hP hD hS d_Mod_rename_242
  · have h := if_f hc h
    refine lv_aload_n hx hb d_Mod_rename_179 rfl (lv_at hl 0 rfl) ?_
    refine lv_iload hx hb d_Mod_rename_180 (lv_at hl 4 rfl) ?_
    refine lv_iload_n hx hb d_Mod_rename_182 rfl (lv_at hl 2 rfl) ?_
    refine lv_iload_n hx hb d_Mod_rename_183 rfl (lv_at hl 1 rfl) ?_
    refine lv_iload hx hb d_Mod_rename_184 (lv_at hl 3 rfl) ?_
    obtain ⟨p8, e1, h⟩ := bd_some h
    refine fx_v X (fx_runV (As := [.int y6, .int y3, .int y2, .int y4]) X (m_Mod_nameEntry e1 _) hP hD kv_Mod_165 ⟨Nat.le_of_ble_eq_true rfl, Nat.le_of_ble_eq_true rfl⟩ 0 rfl rfl rfl hl.1 rfl (Nat.le_of_ble_eq_true rfl) d_Mod_rename_186) hD hS (fun H locs hP hD hS => ?_)
    cases h
    exact fx_vret X hP hD hS d_Mod_rename_189
set_option maxHeartbeats 4000000 in
set_option maxRecDepth 100000 in
theorem v_Mod_rename_112 {p : Program} {l : Launch} {e : Env} {s : State} {m : MethodId} {args : Array Value} {below : List Frame} {meth : Method} {c : Code} {D : va_G} {ad : Nat → Nat} {ca : Nat → ClassId} {A : Nat → Prop} {FU : Nat} {q : St} (X : FX p s m meth c prog_12_method_40_code 11 none "FlashFilesModel" D (tyM ca) A) {y2 : Int32} {y3 : Int32} {y4 : Int32} {y5 : Int32} {y6 : Int32} {y7 : Int32} {z0 : Int32} {g : St} {H : Heap} {locs : List Loc} {ls : Array Slot} (hP : va_P D cls (wM ad ca g) H) (hD : va_D A (wM ad ca g)) (hS : va_S A s.heap H locs) (hl : lv_has ls 11 [(0, .ref (ad 0)), (2, .int y2), (3, .int y3), (4, .int y4), (5, .int y5), (6, .int y6), (7, .int y7)]) (h : Mod_rename_b112 FU y2 y3 y4 y5 y6 y7 z0 g = some q) : W p l e (rmN 6) s m args below meth c H locs 0 0 (MQ below (fxQv D (tyM ca) A (wM ad ca q)) args s 0 0 A) (F0 m 112 ls [.int z0]) := by
  have hx := X.1
  have hb := X.2.1
  unfold Mod_rename_b112 at h
  refine lv_istore hx hb d_Mod_rename_112 hl (by decide) rfl (fun ls hl => ?_)
  have hl : lv_has ls 11 [(8, .int z0), (0, .ref (ad 0)), (2, .int y2), (3, .int y3), (4, .int y4), (5, .int y5), (6, .int y6), (7, .int y7)] := hl
  refine lv_aload_n hx hb d_Mod_rename_114 rfl (lv_at hl 1 rfl) ?_
  obtain ⟨p9, e1, h⟩ := bd_some h
  refine fx_v X (fx_runV (As := []) X (m_Mod_done e1 _) hP hD kv_Mod_185 ⟨Nat.le_of_ble_eq_true rfl, Nat.le_of_ble_eq_true rfl⟩ 0 rfl rfl rfl hl.1 rfl (Nat.le_of_ble_eq_true rfl) d_Mod_rename_115) hD hS (fun H locs hP hD hS => ?_)
  refine lv_aload_n hx hb d_Mod_rename_118 rfl (lv_at hl 1 rfl) ?_
  refine lv_iload hx hb d_Mod_rename_119 (lv_at hl 5 rfl) ?_
  refine lv_iload hx hb d_Mod_rename_121 (lv_at hl 0 rfl) ?_
  obtain ⟨p10, e1, h⟩ := bd_some h
  refine fx_i X (fx_runV (As := [.int y5, .int z0]) X (m_Mod_throwing e1 _) hP hD kv_Mod_148 ⟨Nat.le_of_ble_eq_true rfl, Nat.le_of_ble_eq_true rfl⟩ 0 rfl rfl rfl hl.1 rfl (Nat.le_of_ble_eq_true rfl) d_Mod_rename_123) hD hS (fun H locs hP hD hS => ?_)
  refine lv_if_ne (tgt := 138) hx hb d_Mod_rename_126 (by decide) (fun hc => ?_) (fun hc => ?_)
  · have h := if_f hc h
    cases h
    exact fx_vret X hP hD hS d_Mod_rename_138
  · have h := if_t hc h
    refine lv_aload_n hx hb d_Mod_rename_129 rfl (lv_at hl 1 rfl) ?_
    refine lv_bipush (v := 8) hx hb d_Mod_rename_130 (by decide) ?_
    obtain ⟨p11, e1, h⟩ := bd_some h
    refine fx_i X (fx_runV (As := [.int (8 : Int32)]) X (m_Mod_stops e1 _) hP hD kv_Mod_188 ⟨Nat.le_of_ble_eq_true rfl, Nat.le_of_ble_eq_true rfl⟩ 0 rfl rfl rfl hl.1 rfl (Nat.le_of_ble_eq_true rfl) d_Mod_rename_132) hD hS (fun H locs hP hD hS => ?_)
    refine lv_if_eq (tgt := 139) hx hb d_Mod_rename_135 (by decide) (fun hc => ?_) (fun hc => ?_)
    · have h := if_t hc h
      refine lv_aload_n hx hb d_Mod_rename_139 rfl (lv_at hl 1 rfl) ?_
      refine gM_mod_entryId X hP d_Mod_rename_140 ?_
      refine lv_iload hx hb d_Mod_rename_143 (lv_at hl 6 rfl) ?_
      obtain ⟨v12, e1, h⟩ := bd_some h
      refine rM_12 X hP e1 d_Mod_rename_145 ?_
      refine lv_istore hx hb d_Mod_rename_146 hl (by decide) rfl (fun ls hl => ?_)
      have hl : lv_has ls 11 [(9, .int v12), (8, .int z0), (0, .ref (ad 0)), (2, .int y2), (3, .int y3), (4, .int y4), (5, .int y5), (6, .int y6), (7, .int y7)] := hl
      refine lv_iload hx hb d_Mod_rename_148 (lv_at hl 8 rfl) ?_
      refine lv_if_lt (tgt := 166) hx hb d_Mod_rename_150 (by decide) (fun hc => ?_) (fun hc => ?_)
      · have h := if_t hc h
        exact v_Mod_rename_166 X  hP hD hS (lv_sub hl [2, 3, 4, 5, 7, 8, 0] rfl) h
      · have h := if_f hc h
        refine lv_aload_n hx hb d_Mod_rename_153 rfl (lv_at hl 2 rfl) ?_
        refine gM_mod_entryId X hP d_Mod_rename_154 ?_
        refine lv_iload hx hb d_Mod_rename_157 (lv_at hl 8 rfl) ?_
        obtain ⟨v13, e1, h⟩ := bd_some h
        refine rM_12 X hP e1 d_Mod_rename_159 ?_
        refine lv_iload hx hb d_Mod_rename_160 (lv_at hl 0 rfl) ?_
        refine lv_icmp_ne (tgt := 166) hx hb d_Mod_rename_162 (by decide) (fun hc => ?_) (fun hc => ?_)
        · have h := if_f hc h
          exact v_Mod_rename_166 X  hP hD hS (lv_sub hl [2, 3, 4, 5, 7, 8, 0] rfl) h
        · have h := if_t hc h
          cases h
          exact fx_vret X hP hD hS d_Mod_rename_165
    · have h := if_f hc h
      cases h
      exact fx_vret X hP hD hS d_Mod_rename_138
set_option maxHeartbeats 4000000 in
set_option maxRecDepth 100000 in
theorem v_Mod_rename_107 {p : Program} {l : Launch} {e : Env} {s : State} {m : MethodId} {args : Array Value} {below : List Frame} {meth : Method} {c : Code} {D : va_G} {ad : Nat → Nat} {ca : Nat → ClassId} {A : Nat → Prop} {FU : Nat} {q : St} (X : FX p s m meth c prog_12_method_40_code 11 none "FlashFilesModel" D (tyM ca) A) {y2 : Int32} {y3 : Int32} {y4 : Int32} {y5 : Int32} {y6 : Int32} {y7 : Int32} {g : St} {H : Heap} {locs : List Loc} {ls : Array Slot} (hP : va_P D cls (wM ad ca g) H) (hD : va_D A (wM ad ca g)) (hS : va_S A s.heap H locs) (hl : lv_has ls 11 [(0, .ref (ad 0)), (2, .int y2), (3, .int y3), (4, .int y4), (5, .int y5), (6, .int y6), (7, .int y7)]) (h : Mod_rename_b107 FU y2 y3 y4 y5 y6 y7 g = some q) : W p l e (rmN 6) s m args below meth c H locs 0 0 (MQ below (fxQv D (tyM ca) A (wM ad ca q)) args s 0 0 A) (F0 m 107 ls []) := by
  have hx := X.1
  have hb := X.2.1
  unfold Mod_rename_b107 at h
  refine lv_iconst (v := 1) hx hb d_Mod_rename_107 (by decide) ?_
  refine lv_goto (tgt := 112) hx hb d_Mod_rename_108 (by decide) ?_
  exact v_Mod_rename_112 X  hP hD hS (lv_sub hl [0, 1, 2, 3, 4, 5, 6] rfl) h
set_option maxHeartbeats 4000000 in
set_option maxRecDepth 100000 in
theorem v_Mod_rename_87 {p : Program} {l : Launch} {e : Env} {s : State} {m : MethodId} {args : Array Value} {below : List Frame} {meth : Method} {c : Code} {D : va_G} {ad : Nat → Nat} {ca : Nat → ClassId} {A : Nat → Prop} {FU : Nat} {q : St} (X : FX p s m meth c prog_12_method_40_code 11 none "FlashFilesModel" D (tyM ca) A) {y1 : Int32} {y2 : Int32} {y3 : Int32} {y4 : Int32} {y5 : Int32} {y6 : Int32} {z0 : Int32} {g : St} {H : Heap} {locs : List Loc} {ls : Array Slot} (hP : va_P D cls (wM ad ca g) H) (hD : va_D A (wM ad ca g)) (hS : va_S A s.heap H locs) (hl : lv_has ls 11 [(0, .ref (ad 0)), (1, .int y1), (2, .int y2), (3, .int y3), (4, .int y4), (5, .int y5), (6, .int y6)]) (h : Mod_rename_b87 FU y1 y2 y3 y4 y5 y6 z0 g = some q) : W p l e (rmN 6) s m args below meth c H locs 0 0 (MQ below (fxQv D (tyM ca) A (wM ad ca q)) args s 0 0 A) (F0 m 87 ls [.int z0]) := by
  have hx := X.1
  have hb := X.2.1
  unfold Mod_rename_b87 at h
  refine lv_istore hx hb d_Mod_rename_87 hl (by decide) rfl (fun ls hl => ?_)
  have hl : lv_has ls 11 [(7, .int z0), (0, .ref (ad 0)), (1, .int y1), (2, .int y2), (3, .int y3), (4, .int y4), (5, .int y5), (6, .int y6)] := hl
  refine lv_iload hx hb d_Mod_rename_89 (lv_at hl 6 rfl) ?_
  refine lv_if_ne (tgt := 107) hx hb d_Mod_rename_91 (by decide) (fun hc => ?_) (fun hc => ?_)
  · have h := if_f hc h
    exact v_Mod_rename_107 X  hP hD hS (lv_sub hl [1, 3, 4, 5, 6, 7, 0] rfl) h
  · have h := if_t hc h
    refine lv_aload_n hx hb d_Mod_rename_94 rfl (lv_at hl 1 rfl) ?_
    refine lv_iload hx hb d_Mod_rename_95 (lv_at hl 7 rfl) ?_
    refine lv_iload hx hb d_Mod_rename_97 (lv_at hl 0 rfl) ?_
    refine lv_iload_n hx hb d_Mod_rename_99 rfl (lv_at hl 2 rfl) ?_
    refine lv_iload_n hx hb d_Mod_rename_100 rfl (lv_at hl 4 rfl) ?_
    obtain ⟨v14, e1, h⟩ := bd_some h
    refine fx_i X (fx_runV (As := [.int y6, .int z0, .int y1, .int y3]) X (m_Mod_isRefused e1 _) hP hD kv_Mod_206 ⟨Nat.le_of_ble_eq_true rfl, Nat.le_of_ble_eq_true rfl⟩ 0 rfl rfl rfl hl.1 rfl (Nat.le_of_ble_eq_true rfl) d_Mod_rename_101) hD hS (fun H locs hP hD hS => ?_)
    refine lv_if_eq (tgt := 111) hx hb d_Mod_rename_104 (by decide) (fun hc => ?_) (fun hc => ?_)
    · have h := if_t hc h
      refine lv_iconst (v := 0) hx hb d_Mod_rename_111 (by decide) ?_
      exact v_Mod_rename_112 X  hP hD hS (lv_sub hl [1, 3, 4, 5, 6, 7, 0] rfl) h
    · have h := if_f hc h
      exact v_Mod_rename_107 X  hP hD hS (lv_sub hl [1, 3, 4, 5, 6, 7, 0] rfl) h
set_option maxHeartbeats 4000000 in
set_option maxRecDepth 100000 in
theorem v_Mod_rename_68 {p : Program} {l : Launch} {e : Env} {s : State} {m : MethodId} {args : Array Value} {below : List Frame} {meth : Method} {c : Code} {D : va_G} {ad : Nat → Nat} {ca : Nat → ClassId} {A : Nat → Prop} {FU : Nat} {q : St} (X : FX p s m meth c prog_12_method_40_code 11 none "FlashFilesModel" D (tyM ca) A) {y1 : Int32} {y2 : Int32} {y3 : Int32} {y4 : Int32} {y5 : Int32} {z0 : Int32} {g : St} {H : Heap} {locs : List Loc} {ls : Array Slot} (hP : va_P D cls (wM ad ca g) H) (hD : va_D A (wM ad ca g)) (hS : va_S A s.heap H locs) (hl : lv_has ls 11 [(0, .ref (ad 0)), (1, .int y1), (2, .int y2), (3, .int y3), (4, .int y4), (5, .int y5)]) (h : Mod_rename_b68 FU y1 y2 y3 y4 y5 z0 g = some q) : W p l e (rmN 6) s m args below meth c H locs 0 0 (MQ below (fxQv D (tyM ca) A (wM ad ca q)) args s 0 0 A) (F0 m 68 ls [.int z0]) := by
  have hx := X.1
  have hb := X.2.1
  unfold Mod_rename_b68 at h
  refine lv_istore hx hb d_Mod_rename_68 hl (by decide) rfl (fun ls hl => ?_)
  have hl : lv_has ls 11 [(6, .int z0), (0, .ref (ad 0)), (1, .int y1), (2, .int y2), (3, .int y3), (4, .int y4), (5, .int y5)] := hl
  refine lv_iload hx hb d_Mod_rename_70 (lv_at hl 6 rfl) ?_
  refine lv_if_eq (tgt := 79) hx hb d_Mod_rename_72 (by decide) (fun hc => ?_) (fun hc => ?_)
  · have h := if_t hc h
    refine lv_aload_n hx hb d_Mod_rename_79 rfl (lv_at hl 1 rfl) ?_
    refine lv_iload_n hx hb d_Mod_rename_80 rfl (lv_at hl 4 rfl) ?_
    refine lv_iload_n hx hb d_Mod_rename_81 rfl (lv_at hl 3 rfl) ?_
    refine lv_iload hx hb d_Mod_rename_82 (lv_at hl 5 rfl) ?_
    obtain ⟨v15, e1, h⟩ := bd_some h
    refine fx_i X (fx_runV (As := [.int y3, .int y2, .int y4]) X (m_Mod_seek e1 _) hP hD kv_Mod_179 ⟨Nat.le_of_ble_eq_true rfl, Nat.le_of_ble_eq_true rfl⟩ 0 rfl rfl rfl hl.1 rfl (Nat.le_of_ble_eq_true rfl) d_Mod_rename_84) hD hS (fun H locs hP hD hS => ?_)
    exact v_Mod_rename_87 X  hP hD hS (lv_sub hl [1, 2, 3, 4, 5, 6, 0] rfl) h
  · have h := if_f hc h
    refine lv_iconst (v := -1) hx hb d_Mod_rename_75 (by decide) ?_
    refine lv_goto (tgt := 87) hx hb d_Mod_rename_76 (by decide) ?_
    exact v_Mod_rename_87 X  hP hD hS (lv_sub hl [1, 2, 3, 4, 5, 6, 0] rfl) h
set_option maxHeartbeats 4000000 in
set_option maxRecDepth 100000 in
theorem v_Mod_rename_50 {p : Program} {l : Launch} {e : Env} {s : State} {m : MethodId} {args : Array Value} {below : List Frame} {meth : Method} {c : Code} {D : va_G} {ad : Nat → Nat} {ca : Nat → ClassId} {A : Nat → Prop} {FU : Nat} {q : St} (X : FX p s m meth c prog_12_method_40_code 11 none "FlashFilesModel" D (tyM ca) A) {y1 : Int32} {y2 : Int32} {y3 : Int32} {y4 : Int32} {z0 : Int32} {g : St} {H : Heap} {locs : List Loc} {ls : Array Slot} (hP : va_P D cls (wM ad ca g) H) (hD : va_D A (wM ad ca g)) (hS : va_S A s.heap H locs) (hl : lv_has ls 11 [(0, .ref (ad 0)), (1, .int y1), (2, .int y2), (3, .int y3), (4, .int y4)]) (h : Mod_rename_b50 FU y1 y2 y3 y4 z0 g = some q) : W p l e (rmN 6) s m args below meth c H locs 0 0 (MQ below (fxQv D (tyM ca) A (wM ad ca q)) args s 0 0 A) (F0 m 50 ls [.int z0]) := by
  have hx := X.1
  have hb := X.2.1
  unfold Mod_rename_b50 at h
  refine lv_istore hx hb d_Mod_rename_50 hl (by decide) rfl (fun ls hl => ?_)
  have hl : lv_has ls 11 [(5, .int z0), (0, .ref (ad 0)), (1, .int y1), (2, .int y2), (3, .int y3), (4, .int y4)] := hl
  refine lv_iload hx hb d_Mod_rename_52 (lv_at hl 0 rfl) ?_
  refine lv_if_eq (tgt := 61) hx hb d_Mod_rename_54 (by decide) (fun hc => ?_) (fun hc => ?_)
  · have h := if_t hc h
    refine lv_aload_n hx hb d_Mod_rename_61 rfl (lv_at hl 1 rfl) ?_
    refine lv_iload_n hx hb d_Mod_rename_62 rfl (lv_at hl 2 rfl) ?_
    refine lv_iconst (v := 0) hx hb d_Mod_rename_63 (by decide) ?_
    refine lv_iload_n hx hb d_Mod_rename_64 rfl (lv_at hl 3 rfl) ?_
    obtain ⟨v16, e1, h⟩ := bd_some h
    refine fx_i X (fx_runV (As := [.int y1, .int (0 : Int32), .int y2]) X (m_Mod_seek e1 _) hP hD kv_Mod_179 ⟨Nat.le_of_ble_eq_true rfl, Nat.le_of_ble_eq_true rfl⟩ 0 rfl rfl rfl hl.1 rfl (Nat.le_of_ble_eq_true rfl) d_Mod_rename_65) hD hS (fun H locs hP hD hS => ?_)
    exact v_Mod_rename_68 X  hP hD hS (lv_sub hl [1, 2, 3, 4, 5, 0] rfl) h
  · have h := if_f hc h
    refine lv_iconst (v := -1) hx hb d_Mod_rename_57 (by decide) ?_
    refine lv_goto (tgt := 68) hx hb d_Mod_rename_58 (by decide) ?_
    exact v_Mod_rename_68 X  hP hD hS (lv_sub hl [1, 2, 3, 4, 5, 0] rfl) h
set_option maxHeartbeats 4000000 in
set_option maxRecDepth 100000 in
theorem v_Mod_rename_45 {p : Program} {l : Launch} {e : Env} {s : State} {m : MethodId} {args : Array Value} {below : List Frame} {meth : Method} {c : Code} {D : va_G} {ad : Nat → Nat} {ca : Nat → ClassId} {A : Nat → Prop} {FU : Nat} {q : St} (X : FX p s m meth c prog_12_method_40_code 11 none "FlashFilesModel" D (tyM ca) A) {y1 : Int32} {y2 : Int32} {y3 : Int32} {y4 : Int32} {g : St} {H : Heap} {locs : List Loc} {ls : Array Slot} (hP : va_P D cls (wM ad ca g) H) (hD : va_D A (wM ad ca g)) (hS : va_S A s.heap H locs) (hl : lv_has ls 11 [(0, .ref (ad 0)), (1, .int y1), (2, .int y2), (3, .int y3), (4, .int y4)]) (h : Mod_rename_b45 FU y1 y2 y3 y4 g = some q) : W p l e (rmN 6) s m args below meth c H locs 0 0 (MQ below (fxQv D (tyM ca) A (wM ad ca q)) args s 0 0 A) (F0 m 45 ls []) := by
  have hx := X.1
  have hb := X.2.1
  unfold Mod_rename_b45 at h
  refine lv_iconst (v := 1) hx hb d_Mod_rename_45 (by decide) ?_
  refine lv_goto (tgt := 50) hx hb d_Mod_rename_46 (by decide) ?_
  exact v_Mod_rename_50 X  hP hD hS (lv_sub hl [0, 1, 2, 3, 4] rfl) h
set_option maxHeartbeats 4000000 in
set_option maxRecDepth 100000 in
theorem m_Mod_rename {l : Launch} {D : va_G} {ad : Nat → Nat} {ca : Nat → ClassId} {FU : Nat} {x1 : Int32} {x2 : Int32} {x3 : Int32} {x4 : Int32} {g : St} {q : St} (h : Mod_rename FU x1 x2 x3 x4 g = some q) : CV l ⟨"FlashFilesModel", "rename", "(IIII)V"⟩ prog_12_method_40_code 11 6 D (tyM ca) (wM ad ca g) [.ref (ad 0), .int x1, .int x2, .int x3, .int x4] (wM ad ca q) := by
  intro sz
  refine Met.fx (Qc := fun A => fxQv D (tyM ca) A (wM ad ca q)) (by decide) (Nat.le_of_ble_eq_true rfl) ?_
  intro p e s m below meth c A ls X hP hD hl
  have hl : lv_has ls 11 [(0, .ref (ad 0)), (1, .int x1), (2, .int x2), (3, .int x3), (4, .int x4)] := hl
  have hS : va_S A s.heap s.heap [] := va_S.rf
  have hx := X.1
  have hb := X.2.1
  unfold Mod_rename at h
  refine lv_aload_n hx hb d_Mod_rename_0 rfl (lv_at hl 0 rfl) ?_
  obtain ⟨p17, e1, h⟩ := bd_some h
  refine fx_i X (fx_runV (As := []) X (m_Mod_isOff e1 _) hP hD kv_Mod_169 ⟨Nat.le_of_ble_eq_true rfl, Nat.le_of_ble_eq_true rfl⟩ 0 rfl rfl rfl hl.1 rfl (Nat.le_of_ble_eq_true rfl) d_Mod_rename_1) hD hS (fun H locs hP hD hS => ?_)
  refine lv_if_eq (tgt := 8) hx hb d_Mod_rename_4 (by decide) (fun hc => ?_) (fun hc => ?_)
  · have h := if_t hc h
    refine lv_aload_n hx hb d_Mod_rename_8 rfl (lv_at hl 0 rfl) ?_
    refine lv_iload_n hx hb d_Mod_rename_9 rfl (lv_at hl 1 rfl) ?_
    refine lv_iconst (v := 2) hx hb d_Mod_rename_10 (by decide) ?_
    obtain ⟨v18, e1, h⟩ := bd_some h
    refine fx_i X (fx_runV (As := [.int x1, .int (2 : Int32)]) X (m_Mod_is e1 _) hP hD kv_Mod_172 ⟨Nat.le_of_ble_eq_true rfl, Nat.le_of_ble_eq_true rfl⟩ 0 rfl rfl rfl hl.1 rfl (Nat.le_of_ble_eq_true rfl) d_Mod_rename_11) hD hS (fun H locs hP hD hS => ?_)
    refine lv_if_eq (tgt := 45) hx hb d_Mod_rename_14 (by decide) (fun hc => ?_) (fun hc => ?_)
    · have h := if_t hc h
      exact v_Mod_rename_45 X  hP hD hS (lv_sub hl [0, 1, 2, 3, 4] rfl) h
    · have h := if_f hc h
      refine lv_aload_n hx hb d_Mod_rename_17 rfl (lv_at hl 0 rfl) ?_
      refine lv_iload_n hx hb d_Mod_rename_18 rfl (lv_at hl 3 rfl) ?_
      refine lv_iconst (v := 2) hx hb d_Mod_rename_19 (by decide) ?_
      obtain ⟨v19, e1, h⟩ := bd_some h
      refine fx_i X (fx_runV (As := [.int x3, .int (2 : Int32)]) X (m_Mod_is e1 _) hP hD kv_Mod_172 ⟨Nat.le_of_ble_eq_true rfl, Nat.le_of_ble_eq_true rfl⟩ 0 rfl rfl rfl hl.1 rfl (Nat.le_of_ble_eq_true rfl) d_Mod_rename_20) hD hS (fun H locs hP hD hS => ?_)
      refine lv_if_eq (tgt := 45) hx hb d_Mod_rename_23 (by decide) (fun hc => ?_) (fun hc => ?_)
      · have h := if_t hc h
        exact v_Mod_rename_45 X  hP hD hS (lv_sub hl [0, 1, 2, 3, 4] rfl) h
      · have h := if_f hc h
        refine lv_aload_n hx hb d_Mod_rename_26 rfl (lv_at hl 0 rfl) ?_
        refine lv_iconst (v := 0) hx hb d_Mod_rename_27 (by decide) ?_
        refine lv_iload_n hx hb d_Mod_rename_28 rfl (lv_at hl 2 rfl) ?_
        obtain ⟨v20, e1, h⟩ := bd_some h
        refine fx_i X (fx_runV (As := [.int (0 : Int32), .int x2]) X (m_Mod_isName e1 _) hP hD kv_Mod_176 ⟨Nat.le_of_ble_eq_true rfl, Nat.le_of_ble_eq_true rfl⟩ 0 rfl rfl rfl hl.1 rfl (Nat.le_of_ble_eq_true rfl) d_Mod_rename_29) hD hS (fun H locs hP hD hS => ?_)
        refine lv_if_eq (tgt := 45) hx hb d_Mod_rename_32 (by decide) (fun hc => ?_) (fun hc => ?_)
        · have h := if_t hc h
          exact v_Mod_rename_45 X  hP hD hS (lv_sub hl [0, 1, 2, 3, 4] rfl) h
        · have h := if_f hc h
          refine lv_aload_n hx hb d_Mod_rename_35 rfl (lv_at hl 0 rfl) ?_
          refine lv_iload_n hx hb d_Mod_rename_36 rfl (lv_at hl 2 rfl) ?_
          refine lv_iload hx hb d_Mod_rename_37 (lv_at hl 4 rfl) ?_
          obtain ⟨v21, e1, h⟩ := bd_some h
          refine fx_i X (fx_runV (As := [.int x2, .int x4]) X (m_Mod_isName e1 _) hP hD kv_Mod_176 ⟨Nat.le_of_ble_eq_true rfl, Nat.le_of_ble_eq_true rfl⟩ 0 rfl rfl rfl hl.1 rfl (Nat.le_of_ble_eq_true rfl) d_Mod_rename_39) hD hS (fun H locs hP hD hS => ?_)
          refine lv_if_ne (tgt := 49) hx hb d_Mod_rename_42 (by decide) (fun hc => ?_) (fun hc => ?_)
          · have h := if_f hc h
            refine lv_iconst (v := 0) hx hb d_Mod_rename_49 (by decide) ?_
            exact v_Mod_rename_50 X  hP hD hS (lv_sub hl [0, 1, 2, 3, 4] rfl) h
          · have h := if_t hc h
            exact v_Mod_rename_45 X  hP hD hS (lv_sub hl [0, 1, 2, 3, 4] rfl) h
  · have h := if_f hc h
    cases h
    exact fx_vret X hP hD hS d_Mod_rename_7
theorem d_Mod_find_0 : decode prog_12_method_41_code 0 = .ok (.aload_n 0, 1) := by decide +kernel
theorem d_Mod_find_1 : decode prog_12_method_41_code 1 = .ok (.invokevirtual 169, 3) := by decide +kernel
theorem d_Mod_find_4 : decode prog_12_method_41_code 4 = .ok (.ifCond .eq 5, 3) := by decide +kernel
theorem d_Mod_find_7 : decode prog_12_method_41_code 7 = .ok (.iconst 0, 1) := by decide +kernel
theorem d_Mod_find_8 : decode prog_12_method_41_code 8 = .ok (.ireturn, 1) := by decide +kernel
theorem d_Mod_find_9 : decode prog_12_method_41_code 9 = .ok (.aload_n 0, 1) := by decide +kernel
theorem d_Mod_find_10 : decode prog_12_method_41_code 10 = .ok (.iload_n 1, 1) := by decide +kernel
theorem d_Mod_find_11 : decode prog_12_method_41_code 11 = .ok (.iconst 2, 1) := by decide +kernel
theorem d_Mod_find_12 : decode prog_12_method_41_code 12 = .ok (.invokevirtual 172, 3) := by decide +kernel
theorem d_Mod_find_15 : decode prog_12_method_41_code 15 = .ok (.ifCond .eq 12, 3) := by decide +kernel
theorem d_Mod_find_18 : decode prog_12_method_41_code 18 = .ok (.aload_n 0, 1) := by decide +kernel
theorem d_Mod_find_19 : decode prog_12_method_41_code 19 = .ok (.iconst 0, 1) := by decide +kernel
theorem d_Mod_find_20 : decode prog_12_method_41_code 20 = .ok (.iload_n 2, 1) := by decide +kernel
theorem d_Mod_find_21 : decode prog_12_method_41_code 21 = .ok (.invokevirtual 176, 3) := by decide +kernel
theorem d_Mod_find_24 : decode prog_12_method_41_code 24 = .ok (.ifCond .ne 7, 3) := by decide +kernel
theorem d_Mod_find_27 : decode prog_12_method_41_code 27 = .ok (.iconst 1, 1) := by decide +kernel
theorem d_Mod_find_28 : decode prog_12_method_41_code 28 = .ok (.goto 4, 3) := by decide +kernel
theorem d_Mod_find_31 : decode prog_12_method_41_code 31 = .ok (.iconst 0, 1) := by decide +kernel
theorem d_Mod_find_32 : decode prog_12_method_41_code 32 = .ok (.istore_n 3, 1) := by decide +kernel
theorem d_Mod_find_33 : decode prog_12_method_41_code 33 = .ok (.iload_n 3, 1) := by decide +kernel
theorem d_Mod_find_34 : decode prog_12_method_41_code 34 = .ok (.ifCond .eq 7, 3) := by decide +kernel
theorem d_Mod_find_37 : decode prog_12_method_41_code 37 = .ok (.iconst (-1), 1) := by decide +kernel
theorem d_Mod_find_38 : decode prog_12_method_41_code 38 = .ok (.goto 10, 3) := by decide +kernel
theorem d_Mod_find_41 : decode prog_12_method_41_code 41 = .ok (.aload_n 0, 1) := by decide +kernel
theorem d_Mod_find_42 : decode prog_12_method_41_code 42 = .ok (.iload_n 1, 1) := by decide +kernel
theorem d_Mod_find_43 : decode prog_12_method_41_code 43 = .ok (.iconst 0, 1) := by decide +kernel
theorem d_Mod_find_44 : decode prog_12_method_41_code 44 = .ok (.iload_n 2, 1) := by decide +kernel
theorem d_Mod_find_45 : decode prog_12_method_41_code 45 = .ok (.invokevirtual 179, 3) := by decide +kernel
theorem d_Mod_find_48 : decode prog_12_method_41_code 48 = .ok (.istore 4, 2) := by decide +kernel
theorem d_Mod_find_50 : decode prog_12_method_41_code 50 = .ok (.aload_n 0, 1) := by decide +kernel
theorem d_Mod_find_51 : decode prog_12_method_41_code 51 = .ok (.invokevirtual 185, 3) := by decide +kernel
theorem d_Mod_find_54 : decode prog_12_method_41_code 54 = .ok (.aload_n 0, 1) := by decide +kernel
theorem d_Mod_find_55 : decode prog_12_method_41_code 55 = .ok (.iload_n 3, 1) := by decide +kernel
theorem d_Mod_find_56 : decode prog_12_method_41_code 56 = .ok (.iconst 0, 1) := by decide +kernel
theorem d_Mod_find_57 : decode prog_12_method_41_code 57 = .ok (.invokevirtual 148, 3) := by decide +kernel
theorem d_Mod_find_60 : decode prog_12_method_41_code 60 = .ok (.ifCond .eq 5, 3) := by decide +kernel
theorem d_Mod_find_63 : decode prog_12_method_41_code 63 = .ok (.iconst 0, 1) := by decide +kernel
theorem d_Mod_find_64 : decode prog_12_method_41_code 64 = .ok (.ireturn, 1) := by decide +kernel
theorem d_Mod_find_65 : decode prog_12_method_41_code 65 = .ok (.iload 4, 2) := by decide +kernel
theorem d_Mod_find_67 : decode prog_12_method_41_code 67 = .ok (.ifCond .ge 7, 3) := by decide +kernel
theorem d_Mod_find_70 : decode prog_12_method_41_code 70 = .ok (.iconst (-1), 1) := by decide +kernel
theorem d_Mod_find_71 : decode prog_12_method_41_code 71 = .ok (.goto 10, 3) := by decide +kernel
theorem d_Mod_find_74 : decode prog_12_method_41_code 74 = .ok (.aload_n 0, 1) := by decide +kernel
theorem d_Mod_find_75 : decode prog_12_method_41_code 75 = .ok (.getfield 54, 3) := by decide +kernel
theorem d_Mod_find_78 : decode prog_12_method_41_code 78 = .ok (.iload 4, 2) := by decide +kernel
theorem d_Mod_find_80 : decode prog_12_method_41_code 80 = .ok (.iaload, 1) := by decide +kernel
theorem d_Mod_find_81 : decode prog_12_method_41_code 81 = .ok (.ireturn, 1) := by decide +kernel
set_option maxHeartbeats 4000000 in
set_option maxRecDepth 100000 in
theorem v_Mod_find_48 {p : Program} {l : Launch} {e : Env} {s : State} {m : MethodId} {args : Array Value} {below : List Frame} {meth : Method} {c : Code} {D : va_G} {ad : Nat → Nat} {ca : Nat → ClassId} {A : Nat → Prop} {FU : Nat} {q : Int32 × St} (X : FX p s m meth c prog_12_method_41_code 5 (some .int) "FlashFilesModel" D (tyM ca) A) {y3 : Int32} {z0 : Int32} {g : St} {H : Heap} {locs : List Loc} {ls : Array Slot} (hP : va_P D cls (wM ad ca g) H) (hD : va_D A (wM ad ca g)) (hS : va_S A s.heap H locs) (hl : lv_has ls 5 [(0, .ref (ad 0)), (3, .int y3)]) (h : Mod_find_b48 FU y3 z0 g = some q) : W p l e (rmN 4) s m args below meth c H locs 0 0 (MQ below (fxQi D (tyM ca) A (wM ad ca q.2) q.1) args s 0 0 A) (F0 m 48 ls [.int z0]) := by
  have hx := X.1
  have hb := X.2.1
  unfold Mod_find_b48 at h
  refine lv_istore hx hb d_Mod_find_48 hl (by decide) rfl (fun ls hl => ?_)
  have hl : lv_has ls 5 [(4, .int z0), (0, .ref (ad 0)), (3, .int y3)] := hl
  refine lv_aload_n hx hb d_Mod_find_50 rfl (lv_at hl 1 rfl) ?_
  obtain ⟨p1, e1, h⟩ := bd_some h
  refine fx_v X (fx_runV (As := []) X (m_Mod_done e1 _) hP hD kv_Mod_185 ⟨Nat.le_of_ble_eq_true rfl, Nat.le_of_ble_eq_true rfl⟩ 0 rfl rfl rfl hl.1 rfl (Nat.le_of_ble_eq_true rfl) d_Mod_find_51) hD hS (fun H locs hP hD hS => ?_)
  refine lv_aload_n hx hb d_Mod_find_54 rfl (lv_at hl 1 rfl) ?_
  refine lv_iload_n hx hb d_Mod_find_55 rfl (lv_at hl 2 rfl) ?_
  refine lv_iconst (v := 0) hx hb d_Mod_find_56 (by decide) ?_
  obtain ⟨p2, e1, h⟩ := bd_some h
  refine fx_i X (fx_runV (As := [.int y3, .int (0 : Int32)]) X (m_Mod_throwing e1 _) hP hD kv_Mod_148 ⟨Nat.le_of_ble_eq_true rfl, Nat.le_of_ble_eq_true rfl⟩ 0 rfl rfl rfl hl.1 rfl (Nat.le_of_ble_eq_true rfl) d_Mod_find_57) hD hS (fun H locs hP hD hS => ?_)
  refine lv_if_eq (tgt := 65) hx hb d_Mod_find_60 (by decide) (fun hc => ?_) (fun hc => ?_)
  · have h := if_t hc h
    refine lv_iload hx hb d_Mod_find_65 (lv_at hl 0 rfl) ?_
    refine lv_if_ge (tgt := 74) hx hb d_Mod_find_67 (by decide) (fun hc => ?_) (fun hc => ?_)
    · have h := if_t hc h
      refine lv_aload_n hx hb d_Mod_find_74 rfl (lv_at hl 1 rfl) ?_
      refine gM_mod_entryId X hP d_Mod_find_75 ?_
      refine lv_iload hx hb d_Mod_find_78 (lv_at hl 0 rfl) ?_
      obtain ⟨v3, e1, h⟩ := bd_some h
      refine rM_12 X hP e1 d_Mod_find_80 ?_
      cases h
      exact fx_iret X hP hD hS d_Mod_find_81
    · have h := if_f hc h
      refine lv_iconst (v := -1) hx hb d_Mod_find_70 (by decide) ?_
      refine lv_goto (tgt := 81) hx hb d_Mod_find_71 (by decide) ?_
      cases h
      exact fx_iret X hP hD hS d_Mod_find_81
  · have h := if_f hc h
    refine lv_iconst (v := 0) hx hb d_Mod_find_63 (by decide) ?_
    cases h
    exact fx_iret X hP hD hS d_Mod_find_64
set_option maxHeartbeats 4000000 in
set_option maxRecDepth 100000 in
theorem v_Mod_find_32 {p : Program} {l : Launch} {e : Env} {s : State} {m : MethodId} {args : Array Value} {below : List Frame} {meth : Method} {c : Code} {D : va_G} {ad : Nat → Nat} {ca : Nat → ClassId} {A : Nat → Prop} {FU : Nat} {q : Int32 × St} (X : FX p s m meth c prog_12_method_41_code 5 (some .int) "FlashFilesModel" D (tyM ca) A) {y1 : Int32} {y2 : Int32} {z0 : Int32} {g : St} {H : Heap} {locs : List Loc} {ls : Array Slot} (hP : va_P D cls (wM ad ca g) H) (hD : va_D A (wM ad ca g)) (hS : va_S A s.heap H locs) (hl : lv_has ls 5 [(0, .ref (ad 0)), (1, .int y1), (2, .int y2)]) (h : Mod_find_b32 FU y1 y2 z0 g = some q) : W p l e (rmN 4) s m args below meth c H locs 0 0 (MQ below (fxQi D (tyM ca) A (wM ad ca q.2) q.1) args s 0 0 A) (F0 m 32 ls [.int z0]) := by
  have hx := X.1
  have hb := X.2.1
  unfold Mod_find_b32 at h
  refine lv_istore_n hx hb d_Mod_find_32 rfl hl (by decide) rfl (fun ls hl => ?_)
  have hl : lv_has ls 5 [(3, .int z0), (0, .ref (ad 0)), (1, .int y1), (2, .int y2)] := hl
  refine lv_iload_n hx hb d_Mod_find_33 rfl (lv_at hl 0 rfl) ?_
  refine lv_if_eq (tgt := 41) hx hb d_Mod_find_34 (by decide) (fun hc => ?_) (fun hc => ?_)
  · have h := if_t hc h
    refine lv_aload_n hx hb d_Mod_find_41 rfl (lv_at hl 1 rfl) ?_
    refine lv_iload_n hx hb d_Mod_find_42 rfl (lv_at hl 2 rfl) ?_
    refine lv_iconst (v := 0) hx hb d_Mod_find_43 (by decide) ?_
    refine lv_iload_n hx hb d_Mod_find_44 rfl (lv_at hl 3 rfl) ?_
    obtain ⟨v4, e1, h⟩ := bd_some h
    refine fx_i X (fx_runV (As := [.int y1, .int (0 : Int32), .int y2]) X (m_Mod_seek e1 _) hP hD kv_Mod_179 ⟨Nat.le_of_ble_eq_true rfl, Nat.le_of_ble_eq_true rfl⟩ 0 rfl rfl rfl hl.1 rfl (Nat.le_of_ble_eq_true rfl) d_Mod_find_45) hD hS (fun H locs hP hD hS => ?_)
    exact v_Mod_find_48 X  hP hD hS (lv_sub hl [1, 0] rfl) h
  · have h := if_f hc h
    refine lv_iconst (v := -1) hx hb d_Mod_find_37 (by decide) ?_
    refine lv_goto (tgt := 48) hx hb d_Mod_find_38 (by decide) ?_
    exact v_Mod_find_48 X  hP hD hS (lv_sub hl [1, 0] rfl) h
set_option maxHeartbeats 4000000 in
set_option maxRecDepth 100000 in
theorem v_Mod_find_27 {p : Program} {l : Launch} {e : Env} {s : State} {m : MethodId} {args : Array Value} {below : List Frame} {meth : Method} {c : Code} {D : va_G} {ad : Nat → Nat} {ca : Nat → ClassId} {A : Nat → Prop} {FU : Nat} {q : Int32 × St} (X : FX p s m meth c prog_12_method_41_code 5 (some .int) "FlashFilesModel" D (tyM ca) A) {y1 : Int32} {y2 : Int32} {g : St} {H : Heap} {locs : List Loc} {ls : Array Slot} (hP : va_P D cls (wM ad ca g) H) (hD : va_D A (wM ad ca g)) (hS : va_S A s.heap H locs) (hl : lv_has ls 5 [(0, .ref (ad 0)), (1, .int y1), (2, .int y2)]) (h : Mod_find_b27 FU y1 y2 g = some q) : W p l e (rmN 4) s m args below meth c H locs 0 0 (MQ below (fxQi D (tyM ca) A (wM ad ca q.2) q.1) args s 0 0 A) (F0 m 27 ls []) := by
  have hx := X.1
  have hb := X.2.1
  unfold Mod_find_b27 at h
  refine lv_iconst (v := 1) hx hb d_Mod_find_27 (by decide) ?_
  refine lv_goto (tgt := 32) hx hb d_Mod_find_28 (by decide) ?_
  exact v_Mod_find_32 X  hP hD hS (lv_sub hl [0, 1, 2] rfl) h
set_option maxHeartbeats 4000000 in
set_option maxRecDepth 100000 in
theorem m_Mod_find {l : Launch} {D : va_G} {ad : Nat → Nat} {ca : Nat → ClassId} {FU : Nat} {x1 : Int32} {x2 : Int32} {g : St} {q : Int32 × St} (h : Mod_find FU x1 x2 g = some q) : CI l ⟨"FlashFilesModel", "find", "(II)I"⟩ prog_12_method_41_code 5 4 (some .int) D (tyM ca) (wM ad ca g) [.ref (ad 0), .int x1, .int x2] q.1 (wM ad ca q.2) := by
  intro sz
  refine Met.fx (Qc := fun A => fxQi D (tyM ca) A (wM ad ca q.2) q.1) (by decide) (Nat.le_of_ble_eq_true rfl) ?_
  intro p e s m below meth c A ls X hP hD hl
  have hl : lv_has ls 5 [(0, .ref (ad 0)), (1, .int x1), (2, .int x2)] := hl
  have hS : va_S A s.heap s.heap [] := va_S.rf
  have hx := X.1
  have hb := X.2.1
  unfold Mod_find at h
  refine lv_aload_n hx hb d_Mod_find_0 rfl (lv_at hl 0 rfl) ?_
  obtain ⟨p5, e1, h⟩ := bd_some h
  refine fx_i X (fx_runV (As := []) X (m_Mod_isOff e1 _) hP hD kv_Mod_169 ⟨Nat.le_of_ble_eq_true rfl, Nat.le_of_ble_eq_true rfl⟩ 0 rfl rfl rfl hl.1 rfl (Nat.le_of_ble_eq_true rfl) d_Mod_find_1) hD hS (fun H locs hP hD hS => ?_)
  refine lv_if_eq (tgt := 9) hx hb d_Mod_find_4 (by decide) (fun hc => ?_) (fun hc => ?_)
  · have h := if_t hc h
    refine lv_aload_n hx hb d_Mod_find_9 rfl (lv_at hl 0 rfl) ?_
    refine lv_iload_n hx hb d_Mod_find_10 rfl (lv_at hl 1 rfl) ?_
    refine lv_iconst (v := 2) hx hb d_Mod_find_11 (by decide) ?_
    obtain ⟨v6, e1, h⟩ := bd_some h
    refine fx_i X (fx_runV (As := [.int x1, .int (2 : Int32)]) X (m_Mod_is e1 _) hP hD kv_Mod_172 ⟨Nat.le_of_ble_eq_true rfl, Nat.le_of_ble_eq_true rfl⟩ 0 rfl rfl rfl hl.1 rfl (Nat.le_of_ble_eq_true rfl) d_Mod_find_12) hD hS (fun H locs hP hD hS => ?_)
    refine lv_if_eq (tgt := 27) hx hb d_Mod_find_15 (by decide) (fun hc => ?_) (fun hc => ?_)
    · have h := if_t hc h
      exact v_Mod_find_27 X  hP hD hS (lv_sub hl [0, 1, 2] rfl) h
    · have h := if_f hc h
      refine lv_aload_n hx hb d_Mod_find_18 rfl (lv_at hl 0 rfl) ?_
      refine lv_iconst (v := 0) hx hb d_Mod_find_19 (by decide) ?_
      refine lv_iload_n hx hb d_Mod_find_20 rfl (lv_at hl 2 rfl) ?_
      obtain ⟨v7, e1, h⟩ := bd_some h
      refine fx_i X (fx_runV (As := [.int (0 : Int32), .int x2]) X (m_Mod_isName e1 _) hP hD kv_Mod_176 ⟨Nat.le_of_ble_eq_true rfl, Nat.le_of_ble_eq_true rfl⟩ 0 rfl rfl rfl hl.1 rfl (Nat.le_of_ble_eq_true rfl) d_Mod_find_21) hD hS (fun H locs hP hD hS => ?_)
      refine lv_if_ne (tgt := 31) hx hb d_Mod_find_24 (by decide) (fun hc => ?_) (fun hc => ?_)
      · have h := if_f hc h
        refine lv_iconst (v := 0) hx hb d_Mod_find_31 (by decide) ?_
        exact v_Mod_find_32 X  hP hD hS (lv_sub hl [0, 1, 2] rfl) h
      · have h := if_t hc h
        exact v_Mod_find_27 X  hP hD hS (lv_sub hl [0, 1, 2] rfl) h
  · have h := if_f hc h
    refine lv_iconst (v := 0) hx hb d_Mod_find_7 (by decide) ?_
    cases h
    exact fx_iret X hP hD hS d_Mod_find_8
theorem d_Mod_isBefore_0 : decode prog_12_method_42_code 0 = .ok (.iconst 0, 1) := by decide +kernel
theorem d_Mod_isBefore_1 : decode prog_12_method_42_code 1 = .ok (.istore_n 3, 1) := by decide +kernel
theorem d_Mod_isBefore_2 : decode prog_12_method_42_code 2 = .ok (.iload_n 3, 1) := by decide +kernel
theorem d_Mod_isBefore_3 : decode prog_12_method_42_code 3 = .ok (.aload_n 0, 1) := by decide +kernel
theorem d_Mod_isBefore_4 : decode prog_12_method_42_code 4 = .ok (.getfield 57, 3) := by decide +kernel
theorem d_Mod_isBefore_7 : decode prog_12_method_42_code 7 = .ok (.iload_n 1, 1) := by decide +kernel
theorem d_Mod_isBefore_8 : decode prog_12_method_42_code 8 = .ok (.iaload, 1) := by decide +kernel
theorem d_Mod_isBefore_9 : decode prog_12_method_42_code 9 = .ok (.if_icmp .ge 44, 3) := by decide +kernel
theorem d_Mod_isBefore_12 : decode prog_12_method_42_code 12 = .ok (.iload_n 3, 1) := by decide +kernel
theorem d_Mod_isBefore_13 : decode prog_12_method_42_code 13 = .ok (.aload_n 0, 1) := by decide +kernel
theorem d_Mod_isBefore_14 : decode prog_12_method_42_code 14 = .ok (.getfield 57, 3) := by decide +kernel
theorem d_Mod_isBefore_17 : decode prog_12_method_42_code 17 = .ok (.iload_n 2, 1) := by decide +kernel
theorem d_Mod_isBefore_18 : decode prog_12_method_42_code 18 = .ok (.iaload, 1) := by decide +kernel
theorem d_Mod_isBefore_19 : decode prog_12_method_42_code 19 = .ok (.if_icmp .ge 34, 3) := by decide +kernel
theorem d_Mod_isBefore_22 : decode prog_12_method_42_code 22 = .ok (.aload_n 0, 1) := by decide +kernel
theorem d_Mod_isBefore_23 : decode prog_12_method_42_code 23 = .ok (.getfield 61, 3) := by decide +kernel
theorem d_Mod_isBefore_26 : decode prog_12_method_42_code 26 = .ok (.bipush 20, 2) := by decide +kernel
theorem d_Mod_isBefore_28 : decode prog_12_method_42_code 28 = .ok (.iload_n 1, 1) := by decide +kernel
theorem d_Mod_isBefore_29 : decode prog_12_method_42_code 29 = .ok (.imul, 1) := by decide +kernel
theorem d_Mod_isBefore_30 : decode prog_12_method_42_code 30 = .ok (.iload_n 3, 1) := by decide +kernel
theorem d_Mod_isBefore_31 : decode prog_12_method_42_code 31 = .ok (.iadd, 1) := by decide +kernel
theorem d_Mod_isBefore_32 : decode prog_12_method_42_code 32 = .ok (.baload, 1) := by decide +kernel
theorem d_Mod_isBefore_33 : decode prog_12_method_42_code 33 = .ok (.aload_n 0, 1) := by decide +kernel
theorem d_Mod_isBefore_34 : decode prog_12_method_42_code 34 = .ok (.getfield 61, 3) := by decide +kernel
theorem d_Mod_isBefore_37 : decode prog_12_method_42_code 37 = .ok (.bipush 20, 2) := by decide +kernel
theorem d_Mod_isBefore_39 : decode prog_12_method_42_code 39 = .ok (.iload_n 2, 1) := by decide +kernel
theorem d_Mod_isBefore_40 : decode prog_12_method_42_code 40 = .ok (.imul, 1) := by decide +kernel
theorem d_Mod_isBefore_41 : decode prog_12_method_42_code 41 = .ok (.iload_n 3, 1) := by decide +kernel
theorem d_Mod_isBefore_42 : decode prog_12_method_42_code 42 = .ok (.iadd, 1) := by decide +kernel
theorem d_Mod_isBefore_43 : decode prog_12_method_42_code 43 = .ok (.baload, 1) := by decide +kernel
theorem d_Mod_isBefore_44 : decode prog_12_method_42_code 44 = .ok (.if_icmp .ne 9, 3) := by decide +kernel
theorem d_Mod_isBefore_47 : decode prog_12_method_42_code 47 = .ok (.iinc 3 1, 3) := by decide +kernel
theorem d_Mod_isBefore_50 : decode prog_12_method_42_code 50 = .ok (.goto (-48), 3) := by decide +kernel
theorem d_Mod_isBefore_53 : decode prog_12_method_42_code 53 = .ok (.iload_n 3, 1) := by decide +kernel
theorem d_Mod_isBefore_54 : decode prog_12_method_42_code 54 = .ok (.aload_n 0, 1) := by decide +kernel
theorem d_Mod_isBefore_55 : decode prog_12_method_42_code 55 = .ok (.getfield 57, 3) := by decide +kernel
theorem d_Mod_isBefore_58 : decode prog_12_method_42_code 58 = .ok (.iload_n 1, 1) := by decide +kernel
theorem d_Mod_isBefore_59 : decode prog_12_method_42_code 59 = .ok (.iaload, 1) := by decide +kernel
theorem d_Mod_isBefore_60 : decode prog_12_method_42_code 60 = .ok (.if_icmp .eq 13, 3) := by decide +kernel
theorem d_Mod_isBefore_63 : decode prog_12_method_42_code 63 = .ok (.iload_n 3, 1) := by decide +kernel
theorem d_Mod_isBefore_64 : decode prog_12_method_42_code 64 = .ok (.aload_n 0, 1) := by decide +kernel
theorem d_Mod_isBefore_65 : decode prog_12_method_42_code 65 = .ok (.getfield 57, 3) := by decide +kernel
theorem d_Mod_isBefore_68 : decode prog_12_method_42_code 68 = .ok (.iload_n 2, 1) := by decide +kernel
theorem d_Mod_isBefore_69 : decode prog_12_method_42_code 69 = .ok (.iaload, 1) := by decide +kernel
theorem d_Mod_isBefore_70 : decode prog_12_method_42_code 70 = .ok (.if_icmp .ne 24, 3) := by decide +kernel
theorem d_Mod_isBefore_73 : decode prog_12_method_42_code 73 = .ok (.aload_n 0, 1) := by decide +kernel
theorem d_Mod_isBefore_74 : decode prog_12_method_42_code 74 = .ok (.getfield 57, 3) := by decide +kernel
theorem d_Mod_isBefore_77 : decode prog_12_method_42_code 77 = .ok (.iload_n 1, 1) := by decide +kernel
theorem d_Mod_isBefore_78 : decode prog_12_method_42_code 78 = .ok (.iaload, 1) := by decide +kernel
theorem d_Mod_isBefore_79 : decode prog_12_method_42_code 79 = .ok (.aload_n 0, 1) := by decide +kernel
theorem d_Mod_isBefore_80 : decode prog_12_method_42_code 80 = .ok (.getfield 57, 3) := by decide +kernel
theorem d_Mod_isBefore_83 : decode prog_12_method_42_code 83 = .ok (.iload_n 2, 1) := by decide +kernel
theorem d_Mod_isBefore_84 : decode prog_12_method_42_code 84 = .ok (.iaload, 1) := by decide +kernel
theorem d_Mod_isBefore_85 : decode prog_12_method_42_code 85 = .ok (.if_icmp .ge 7, 3) := by decide +kernel
theorem d_Mod_isBefore_88 : decode prog_12_method_42_code 88 = .ok (.iconst 1, 1) := by decide +kernel
theorem d_Mod_isBefore_89 : decode prog_12_method_42_code 89 = .ok (.goto 4, 3) := by decide +kernel
theorem d_Mod_isBefore_92 : decode prog_12_method_42_code 92 = .ok (.iconst 0, 1) := by decide +kernel
theorem d_Mod_isBefore_93 : decode prog_12_method_42_code 93 = .ok (.ireturn, 1) := by decide +kernel
theorem d_Mod_isBefore_94 : decode prog_12_method_42_code 94 = .ok (.aload_n 0, 1) := by decide +kernel
theorem d_Mod_isBefore_95 : decode prog_12_method_42_code 95 = .ok (.getfield 61, 3) := by decide +kernel
theorem d_Mod_isBefore_98 : decode prog_12_method_42_code 98 = .ok (.bipush 20, 2) := by decide +kernel
theorem d_Mod_isBefore_100 : decode prog_12_method_42_code 100 = .ok (.iload_n 1, 1) := by decide +kernel
theorem d_Mod_isBefore_101 : decode prog_12_method_42_code 101 = .ok (.imul, 1) := by decide +kernel
theorem d_Mod_isBefore_102 : decode prog_12_method_42_code 102 = .ok (.iload_n 3, 1) := by decide +kernel
theorem d_Mod_isBefore_103 : decode prog_12_method_42_code 103 = .ok (.iadd, 1) := by decide +kernel
theorem d_Mod_isBefore_104 : decode prog_12_method_42_code 104 = .ok (.baload, 1) := by decide +kernel
theorem d_Mod_isBefore_105 : decode prog_12_method_42_code 105 = .ok (.sipush 255, 3) := by decide +kernel
theorem d_Mod_isBefore_108 : decode prog_12_method_42_code 108 = .ok (.iand, 1) := by decide +kernel
theorem d_Mod_isBefore_109 : decode prog_12_method_42_code 109 = .ok (.aload_n 0, 1) := by decide +kernel
theorem d_Mod_isBefore_110 : decode prog_12_method_42_code 110 = .ok (.getfield 61, 3) := by decide +kernel
theorem d_Mod_isBefore_113 : decode prog_12_method_42_code 113 = .ok (.bipush 20, 2) := by decide +kernel
theorem d_Mod_isBefore_115 : decode prog_12_method_42_code 115 = .ok (.iload_n 2, 1) := by decide +kernel
theorem d_Mod_isBefore_116 : decode prog_12_method_42_code 116 = .ok (.imul, 1) := by decide +kernel
theorem d_Mod_isBefore_117 : decode prog_12_method_42_code 117 = .ok (.iload_n 3, 1) := by decide +kernel
theorem d_Mod_isBefore_118 : decode prog_12_method_42_code 118 = .ok (.iadd, 1) := by decide +kernel
theorem d_Mod_isBefore_119 : decode prog_12_method_42_code 119 = .ok (.baload, 1) := by decide +kernel
theorem d_Mod_isBefore_120 : decode prog_12_method_42_code 120 = .ok (.sipush 255, 3) := by decide +kernel
theorem d_Mod_isBefore_123 : decode prog_12_method_42_code 123 = .ok (.iand, 1) := by decide +kernel
theorem d_Mod_isBefore_124 : decode prog_12_method_42_code 124 = .ok (.if_icmp .ge 7, 3) := by decide +kernel
theorem d_Mod_isBefore_127 : decode prog_12_method_42_code 127 = .ok (.iconst 1, 1) := by decide +kernel
theorem d_Mod_isBefore_128 : decode prog_12_method_42_code 128 = .ok (.goto 4, 3) := by decide +kernel
theorem d_Mod_isBefore_131 : decode prog_12_method_42_code 131 = .ok (.iconst 0, 1) := by decide +kernel
theorem d_Mod_isBefore_132 : decode prog_12_method_42_code 132 = .ok (.ireturn, 1) := by decide +kernel
set_option maxHeartbeats 4000000 in
set_option maxRecDepth 100000 in
theorem v_Mod_isBefore_73 {p : Program} {l : Launch} {e : Env} {s : State} {m : MethodId} {args : Array Value} {below : List Frame} {meth : Method} {c : Code} {D : va_G} {ad : Nat → Nat} {ca : Nat → ClassId} {A : Nat → Prop} {FU : Nat} {q : Int32} {g : St} (X : FX p s m meth c prog_12_method_42_code 4 (some .boolean) "FlashFilesModel" D (tyM ca) A) {y1 : Int32} {y2 : Int32}  {H : Heap} {locs : List Loc} {ls : Array Slot} (hP : va_P D cls (wM ad ca g) H) (hD : va_D A (wM ad ca g)) (hS : va_S A s.heap H locs) (hl : lv_has ls 4 [(0, .ref (ad 0)), (1, .int y1), (2, .int y2)]) (h : Mod_isBefore_b73 FU y1 y2 g = some q) : W p l e (rmN 1) s m args below meth c H locs 0 0 (MQ below (fxQi D (tyM ca) A (wM ad ca g) q) args s 0 0 A) (F0 m 73 ls []) := by
  have hx := X.1
  have hb := X.2.1
  unfold Mod_isBefore_b73 at h
  refine lv_aload_n hx hb d_Mod_isBefore_73 rfl (lv_at hl 0 rfl) ?_
  refine gM_mod_entryLength X hP d_Mod_isBefore_74 ?_
  refine lv_iload_n hx hb d_Mod_isBefore_77 rfl (lv_at hl 1 rfl) ?_
  obtain ⟨v1, e1, h⟩ := bd_some h
  refine rM_13 X hP e1 d_Mod_isBefore_78 ?_
  refine lv_aload_n hx hb d_Mod_isBefore_79 rfl (lv_at hl 0 rfl) ?_
  refine gM_mod_entryLength X hP d_Mod_isBefore_80 ?_
  refine lv_iload_n hx hb d_Mod_isBefore_83 rfl (lv_at hl 2 rfl) ?_
  obtain ⟨v2, e1, h⟩ := bd_some h
  refine rM_13 X hP e1 d_Mod_isBefore_84 ?_
  refine lv_icmp_ge (tgt := 92) hx hb d_Mod_isBefore_85 (by decide) (fun hc => ?_) (fun hc => ?_)
  · have h := if_t hc h
    refine lv_iconst (v := 0) hx hb d_Mod_isBefore_92 (by decide) ?_
    cases h
    exact fx_zret X hP hD hS (Or.inl rfl) d_Mod_isBefore_93
  · have h := if_f hc h
    refine lv_iconst (v := 1) hx hb d_Mod_isBefore_88 (by decide) ?_
    refine lv_goto (tgt := 93) hx hb d_Mod_isBefore_89 (by decide) ?_
    cases h
    exact fx_zret X hP hD hS (Or.inr rfl) d_Mod_isBefore_93
set_option maxHeartbeats 4000000 in
set_option maxRecDepth 100000 in
theorem v_Mod_isBefore_53 {p : Program} {l : Launch} {e : Env} {s : State} {m : MethodId} {args : Array Value} {below : List Frame} {meth : Method} {c : Code} {D : va_G} {ad : Nat → Nat} {ca : Nat → ClassId} {A : Nat → Prop} {FU : Nat} {q : Int32} {g : St} (X : FX p s m meth c prog_12_method_42_code 4 (some .boolean) "FlashFilesModel" D (tyM ca) A) {y1 : Int32} {y2 : Int32} {y3 : Int32}  {H : Heap} {locs : List Loc} {ls : Array Slot} (hP : va_P D cls (wM ad ca g) H) (hD : va_D A (wM ad ca g)) (hS : va_S A s.heap H locs) (hl : lv_has ls 4 [(0, .ref (ad 0)), (1, .int y1), (2, .int y2), (3, .int y3)]) (h : Mod_isBefore_b53 FU y1 y2 y3 g = some q) : W p l e (rmN 1) s m args below meth c H locs 0 0 (MQ below (fxQi D (tyM ca) A (wM ad ca g) q) args s 0 0 A) (F0 m 53 ls []) := by
  have hx := X.1
  have hb := X.2.1
  unfold Mod_isBefore_b53 at h
  refine lv_iload_n hx hb d_Mod_isBefore_53 rfl (lv_at hl 3 rfl) ?_
  refine lv_aload_n hx hb d_Mod_isBefore_54 rfl (lv_at hl 0 rfl) ?_
  refine gM_mod_entryLength X hP d_Mod_isBefore_55 ?_
  refine lv_iload_n hx hb d_Mod_isBefore_58 rfl (lv_at hl 1 rfl) ?_
  obtain ⟨v3, e1, h⟩ := bd_some h
  refine rM_13 X hP e1 d_Mod_isBefore_59 ?_
  refine lv_icmp_eq (tgt := 73) hx hb d_Mod_isBefore_60 (by decide) (fun hc => ?_) (fun hc => ?_)
  · have h := if_t hc h
    exact v_Mod_isBefore_73 X  hP hD hS (lv_sub hl [0, 1, 2] rfl) h
  · have h := if_f hc h
    refine lv_iload_n hx hb d_Mod_isBefore_63 rfl (lv_at hl 3 rfl) ?_
    refine lv_aload_n hx hb d_Mod_isBefore_64 rfl (lv_at hl 0 rfl) ?_
    refine gM_mod_entryLength X hP d_Mod_isBefore_65 ?_
    refine lv_iload_n hx hb d_Mod_isBefore_68 rfl (lv_at hl 2 rfl) ?_
    obtain ⟨v4, e1, h⟩ := bd_some h
    refine rM_13 X hP e1 d_Mod_isBefore_69 ?_
    refine lv_icmp_ne (tgt := 94) hx hb d_Mod_isBefore_70 (by decide) (fun hc => ?_) (fun hc => ?_)
    · have h := if_f hc h
      refine lv_aload_n hx hb d_Mod_isBefore_94 rfl (lv_at hl 0 rfl) ?_
      refine gM_mod_entryName X hP d_Mod_isBefore_95 ?_
      refine lv_bipush (v := 20) hx hb d_Mod_isBefore_98 (by decide) ?_
      refine lv_iload_n hx hb d_Mod_isBefore_100 rfl (lv_at hl 1 rfl) ?_
      refine lv_imul hx hb d_Mod_isBefore_101 ?_
      refine lv_iload_n hx hb d_Mod_isBefore_102 rfl (lv_at hl 3 rfl) ?_
      refine lv_iadd hx hb d_Mod_isBefore_103 ?_
      obtain ⟨v5, e1, h⟩ := bd_some h
      refine rM_14 X hP e1 d_Mod_isBefore_104 ?_
      refine lv_sipush (v := 255) hx hb d_Mod_isBefore_105 (by decide) ?_
      refine lv_iand hx hb d_Mod_isBefore_108 ?_
      refine lv_aload_n hx hb d_Mod_isBefore_109 rfl (lv_at hl 0 rfl) ?_
      refine gM_mod_entryName X hP d_Mod_isBefore_110 ?_
      refine lv_bipush (v := 20) hx hb d_Mod_isBefore_113 (by decide) ?_
      refine lv_iload_n hx hb d_Mod_isBefore_115 rfl (lv_at hl 2 rfl) ?_
      refine lv_imul hx hb d_Mod_isBefore_116 ?_
      refine lv_iload_n hx hb d_Mod_isBefore_117 rfl (lv_at hl 3 rfl) ?_
      refine lv_iadd hx hb d_Mod_isBefore_118 ?_
      obtain ⟨v6, e1, h⟩ := bd_some h
      refine rM_14 X hP e1 d_Mod_isBefore_119 ?_
      refine lv_sipush (v := 255) hx hb d_Mod_isBefore_120 (by decide) ?_
      refine lv_iand hx hb d_Mod_isBefore_123 ?_
      refine lv_icmp_ge (tgt := 131) hx hb d_Mod_isBefore_124 (by decide) (fun hc => ?_) (fun hc => ?_)
      · have h := if_t hc h
        refine lv_iconst (v := 0) hx hb d_Mod_isBefore_131 (by decide) ?_
        cases h
        exact fx_zret X hP hD hS (Or.inl rfl) d_Mod_isBefore_132
      · have h := if_f hc h
        refine lv_iconst (v := 1) hx hb d_Mod_isBefore_127 (by decide) ?_
        refine lv_goto (tgt := 132) hx hb d_Mod_isBefore_128 (by decide) ?_
        cases h
        exact fx_zret X hP hD hS (Or.inr rfl) d_Mod_isBefore_132
    · have h := if_t hc h
      exact v_Mod_isBefore_73 X  hP hD hS (lv_sub hl [0, 1, 2] rfl) h
set_option maxHeartbeats 4000000 in
set_option maxRecDepth 100000 in
theorem v_Mod_isBefore_2 {p : Program} {l : Launch} {e : Env} {s : State} {m : MethodId} {args : Array Value} {below : List Frame} {meth : Method} {c : Code} {D : va_G} {ad : Nat → Nat} {ca : Nat → ClassId} {A : Nat → Prop} {FU : Nat} {q : Int32} {g : St} (X : FX p s m meth c prog_12_method_42_code 4 (some .boolean) "FlashFilesModel" D (tyM ca) A) : ∀ (n : Nat), ∀ (y1 y2 y3 : Int32) (H : Heap) (locs : List Loc) (ls : Array Slot), va_P D cls (wM ad ca g) H → va_D A (wM ad ca g) → va_S A s.heap H locs → lv_has ls 4 [(0, .ref (ad 0)), (1, .int y1), (2, .int y2), (3, .int y3)] → Mod_isBefore_b2 FU n y1 y2 y3 g = some q → W p l e (rmN 1) s m args below meth c H locs 0 0 (MQ below (fxQi D (tyM ca) A (wM ad ca g) q) args s 0 0 A) (F0 m 2 ls []) := by
  have hx := X.1
  have hb := X.2.1
  intro n
  induction n with
  | zero =>
    intro y1 y2 y3 H locs ls hP hD hS hl h
    cases h
  | succ n ih =>
    intro y1 y2 y3 H locs ls hP hD hS hl h
    have h := h
    rw [Mod_isBefore_b2.eq_2] at h
    refine lv_iload_n hx hb d_Mod_isBefore_2 rfl (lv_at hl 3 rfl) ?_
    refine lv_aload_n hx hb d_Mod_isBefore_3 rfl (lv_at hl 0 rfl) ?_
    refine gM_mod_entryLength X hP d_Mod_isBefore_4 ?_
    refine lv_iload_n hx hb d_Mod_isBefore_7 rfl (lv_at hl 1 rfl) ?_
    obtain ⟨v7, e1, h⟩ := bd_some h
    refine rM_13 X hP e1 d_Mod_isBefore_8 ?_
    refine lv_icmp_ge (tgt := 53) hx hb d_Mod_isBefore_9 (by decide) (fun hc => ?_) (fun hc => ?_)
    · have h := if_t hc h
      exact v_Mod_isBefore_53 X  hP hD hS (lv_sub hl [0, 1, 2, 3] rfl) h
    · have h := if_f hc h
      refine lv_iload_n hx hb d_Mod_isBefore_12 rfl (lv_at hl 3 rfl) ?_
      refine lv_aload_n hx hb d_Mod_isBefore_13 rfl (lv_at hl 0 rfl) ?_
      refine gM_mod_entryLength X hP d_Mod_isBefore_14 ?_
      refine lv_iload_n hx hb d_Mod_isBefore_17 rfl (lv_at hl 2 rfl) ?_
      obtain ⟨v8, e1, h⟩ := bd_some h
      refine rM_13 X hP e1 d_Mod_isBefore_18 ?_
      refine lv_icmp_ge (tgt := 53) hx hb d_Mod_isBefore_19 (by decide) (fun hc => ?_) (fun hc => ?_)
      · have h := if_t hc h
        exact v_Mod_isBefore_53 X  hP hD hS (lv_sub hl [0, 1, 2, 3] rfl) h
      · have h := if_f hc h
        refine lv_aload_n hx hb d_Mod_isBefore_22 rfl (lv_at hl 0 rfl) ?_
        refine gM_mod_entryName X hP d_Mod_isBefore_23 ?_
        refine lv_bipush (v := 20) hx hb d_Mod_isBefore_26 (by decide) ?_
        refine lv_iload_n hx hb d_Mod_isBefore_28 rfl (lv_at hl 1 rfl) ?_
        refine lv_imul hx hb d_Mod_isBefore_29 ?_
        refine lv_iload_n hx hb d_Mod_isBefore_30 rfl (lv_at hl 3 rfl) ?_
        refine lv_iadd hx hb d_Mod_isBefore_31 ?_
        obtain ⟨v9, e1, h⟩ := bd_some h
        refine rM_14 X hP e1 d_Mod_isBefore_32 ?_
        refine lv_aload_n hx hb d_Mod_isBefore_33 rfl (lv_at hl 0 rfl) ?_
        refine gM_mod_entryName X hP d_Mod_isBefore_34 ?_
        refine lv_bipush (v := 20) hx hb d_Mod_isBefore_37 (by decide) ?_
        refine lv_iload_n hx hb d_Mod_isBefore_39 rfl (lv_at hl 2 rfl) ?_
        refine lv_imul hx hb d_Mod_isBefore_40 ?_
        refine lv_iload_n hx hb d_Mod_isBefore_41 rfl (lv_at hl 3 rfl) ?_
        refine lv_iadd hx hb d_Mod_isBefore_42 ?_
        obtain ⟨v10, e1, h⟩ := bd_some h
        refine rM_14 X hP e1 d_Mod_isBefore_43 ?_
        refine lv_icmp_ne (tgt := 53) hx hb d_Mod_isBefore_44 (by decide) (fun hc => ?_) (fun hc => ?_)
        · have h := if_f hc h
          exact v_Mod_isBefore_53 X  hP hD hS (lv_sub hl [0, 1, 2, 3] rfl) h
        · have h := if_t hc h
          refine lv_iinc (k := 3) (v := (y3 + (1 : Int32))) hx hb d_Mod_isBefore_47 hl rfl (oi_1 _) (by decide) rfl (fun ls hl => ?_)
          have hl : lv_has ls 4 [(3, .int (y3 + (1 : Int32))), (0, .ref (ad 0)), (1, .int y1), (2, .int y2)] := hl
          refine lv_goto (tgt := 2) hx hb d_Mod_isBefore_50 (by decide) ?_
          exact ih _ _ _ _ _ _ hP hD hS (lv_sub hl [1, 2, 3, 0] rfl) h
set_option maxHeartbeats 4000000 in
set_option maxRecDepth 100000 in
theorem m_Mod_isBefore {l : Launch} {D : va_G} {ad : Nat → Nat} {ca : Nat → ClassId} {FU : Nat} {x1 : Int32} {x2 : Int32} {g : St} {q : Int32} (h : Mod_isBefore FU x1 x2 g = some q) : CI l ⟨"FlashFilesModel", "isBefore", "(II)Z"⟩ prog_12_method_42_code 4 1 (some .boolean) D (tyM ca) (wM ad ca g) [.ref (ad 0), .int x1, .int x2] q (wM ad ca g) := by
  intro sz
  refine Met.fx (Qc := fun A => fxQi D (tyM ca) A (wM ad ca g) q) (by decide) (Nat.le_of_ble_eq_true rfl) ?_
  intro p e s m below meth c A ls X hP hD hl
  have hl : lv_has ls 4 [(0, .ref (ad 0)), (1, .int x1), (2, .int x2)] := hl
  have hS : va_S A s.heap s.heap [] := va_S.rf
  have hx := X.1
  have hb := X.2.1
  unfold Mod_isBefore at h
  refine lv_iconst (v := 0) hx hb d_Mod_isBefore_0 (by decide) ?_
  refine lv_istore_n hx hb d_Mod_isBefore_1 rfl hl (by decide) rfl (fun ls hl => ?_)
  have hl : lv_has ls 4 [(3, .int (0 : Int32)), (0, .ref (ad 0)), (1, .int x1), (2, .int x2)] := hl
  exact v_Mod_isBefore_2 X  _ _ _ _ _ _ _ hP hD hS (lv_sub hl [1, 2, 3, 0] rfl) h
theorem d_Mod_name_0 : decode prog_12_method_43_code 0 = .ok (.aload_n 0, 1) := by decide +kernel
theorem d_Mod_name_1 : decode prog_12_method_43_code 1 = .ok (.invokevirtual 169, 3) := by decide +kernel
theorem d_Mod_name_4 : decode prog_12_method_43_code 4 = .ok (.ifCond .eq 5, 3) := by decide +kernel
theorem d_Mod_name_7 : decode prog_12_method_43_code 7 = .ok (.iconst 0, 1) := by decide +kernel
theorem d_Mod_name_8 : decode prog_12_method_43_code 8 = .ok (.ireturn, 1) := by decide +kernel
theorem d_Mod_name_9 : decode prog_12_method_43_code 9 = .ok (.aload_n 0, 1) := by decide +kernel
theorem d_Mod_name_10 : decode prog_12_method_43_code 10 = .ok (.aload_n 0, 1) := by decide +kernel
theorem d_Mod_name_11 : decode prog_12_method_43_code 11 = .ok (.iload_n 1, 1) := by decide +kernel
theorem d_Mod_name_12 : decode prog_12_method_43_code 12 = .ok (.iconst 2, 1) := by decide +kernel
theorem d_Mod_name_13 : decode prog_12_method_43_code 13 = .ok (.invokevirtual 172, 3) := by decide +kernel
theorem d_Mod_name_16 : decode prog_12_method_43_code 16 = .ok (.ifCond .eq 7, 3) := by decide +kernel
theorem d_Mod_name_19 : decode prog_12_method_43_code 19 = .ok (.iload_n 2, 1) := by decide +kernel
theorem d_Mod_name_20 : decode prog_12_method_43_code 20 = .ok (.ifCond .ge 7, 3) := by decide +kernel
theorem d_Mod_name_23 : decode prog_12_method_43_code 23 = .ok (.iconst 1, 1) := by decide +kernel
theorem d_Mod_name_24 : decode prog_12_method_43_code 24 = .ok (.goto 4, 3) := by decide +kernel
theorem d_Mod_name_27 : decode prog_12_method_43_code 27 = .ok (.iconst 0, 1) := by decide +kernel
theorem d_Mod_name_28 : decode prog_12_method_43_code 28 = .ok (.iconst 0, 1) := by decide +kernel
theorem d_Mod_name_29 : decode prog_12_method_43_code 29 = .ok (.invokevirtual 148, 3) := by decide +kernel
theorem d_Mod_name_32 : decode prog_12_method_43_code 32 = .ok (.ifCond .eq 5, 3) := by decide +kernel
theorem d_Mod_name_35 : decode prog_12_method_43_code 35 = .ok (.iconst 0, 1) := by decide +kernel
theorem d_Mod_name_36 : decode prog_12_method_43_code 36 = .ok (.ireturn, 1) := by decide +kernel
theorem d_Mod_name_37 : decode prog_12_method_43_code 37 = .ok (.aload_n 0, 1) := by decide +kernel
theorem d_Mod_name_38 : decode prog_12_method_43_code 38 = .ok (.iconst 0, 1) := by decide +kernel
theorem d_Mod_name_39 : decode prog_12_method_43_code 39 = .ok (.putfield 210, 3) := by decide +kernel
theorem d_Mod_name_42 : decode prog_12_method_43_code 42 = .ok (.iconst 0, 1) := by decide +kernel
theorem d_Mod_name_43 : decode prog_12_method_43_code 43 = .ok (.istore_n 3, 1) := by decide +kernel
theorem d_Mod_name_44 : decode prog_12_method_43_code 44 = .ok (.iload_n 3, 1) := by decide +kernel
theorem d_Mod_name_45 : decode prog_12_method_43_code 45 = .ok (.aload_n 0, 1) := by decide +kernel
theorem d_Mod_name_46 : decode prog_12_method_43_code 46 = .ok (.getfield 94, 3) := by decide +kernel
theorem d_Mod_name_49 : decode prog_12_method_43_code 49 = .ok (.if_icmp .ge 134, 3) := by decide +kernel
theorem d_Mod_name_52 : decode prog_12_method_43_code 52 = .ok (.iconst 0, 1) := by decide +kernel
theorem d_Mod_name_53 : decode prog_12_method_43_code 53 = .ok (.istore 4, 2) := by decide +kernel
theorem d_Mod_name_55 : decode prog_12_method_43_code 55 = .ok (.iconst 0, 1) := by decide +kernel
theorem d_Mod_name_56 : decode prog_12_method_43_code 56 = .ok (.istore 5, 2) := by decide +kernel
theorem d_Mod_name_58 : decode prog_12_method_43_code 58 = .ok (.iload 5, 2) := by decide +kernel
theorem d_Mod_name_60 : decode prog_12_method_43_code 60 = .ok (.aload_n 0, 1) := by decide +kernel
theorem d_Mod_name_61 : decode prog_12_method_43_code 61 = .ok (.getfield 94, 3) := by decide +kernel
theorem d_Mod_name_64 : decode prog_12_method_43_code 64 = .ok (.if_icmp .ge 50, 3) := by decide +kernel
theorem d_Mod_name_67 : decode prog_12_method_43_code 67 = .ok (.iload 4, 2) := by decide +kernel
theorem d_Mod_name_69 : decode prog_12_method_43_code 69 = .ok (.aload_n 0, 1) := by decide +kernel
theorem d_Mod_name_70 : decode prog_12_method_43_code 70 = .ok (.getfield 51, 3) := by decide +kernel
theorem d_Mod_name_73 : decode prog_12_method_43_code 73 = .ok (.iload 5, 2) := by decide +kernel
theorem d_Mod_name_75 : decode prog_12_method_43_code 75 = .ok (.iaload, 1) := by decide +kernel
theorem d_Mod_name_76 : decode prog_12_method_43_code 76 = .ok (.iload_n 1, 1) := by decide +kernel
theorem d_Mod_name_77 : decode prog_12_method_43_code 77 = .ok (.if_icmp .ne 27, 3) := by decide +kernel
theorem d_Mod_name_80 : decode prog_12_method_43_code 80 = .ok (.aload_n 0, 1) := by decide +kernel
theorem d_Mod_name_81 : decode prog_12_method_43_code 81 = .ok (.getfield 51, 3) := by decide +kernel
theorem d_Mod_name_84 : decode prog_12_method_43_code 84 = .ok (.iload_n 3, 1) := by decide +kernel
theorem d_Mod_name_85 : decode prog_12_method_43_code 85 = .ok (.iaload, 1) := by decide +kernel
theorem d_Mod_name_86 : decode prog_12_method_43_code 86 = .ok (.iload_n 1, 1) := by decide +kernel
theorem d_Mod_name_87 : decode prog_12_method_43_code 87 = .ok (.if_icmp .ne 17, 3) := by decide +kernel
theorem d_Mod_name_90 : decode prog_12_method_43_code 90 = .ok (.aload_n 0, 1) := by decide +kernel
theorem d_Mod_name_91 : decode prog_12_method_43_code 91 = .ok (.iload 5, 2) := by decide +kernel
theorem d_Mod_name_93 : decode prog_12_method_43_code 93 = .ok (.iload_n 3, 1) := by decide +kernel
theorem d_Mod_name_94 : decode prog_12_method_43_code 94 = .ok (.invokevirtual 213, 3) := by decide +kernel
theorem d_Mod_name_97 : decode prog_12_method_43_code 97 = .ok (.ifCond .eq 7, 3) := by decide +kernel
theorem d_Mod_name_100 : decode prog_12_method_43_code 100 = .ok (.iconst 1, 1) := by decide +kernel
theorem d_Mod_name_101 : decode prog_12_method_43_code 101 = .ok (.goto 4, 3) := by decide +kernel
theorem d_Mod_name_104 : decode prog_12_method_43_code 104 = .ok (.iconst 0, 1) := by decide +kernel
theorem d_Mod_name_105 : decode prog_12_method_43_code 105 = .ok (.iadd, 1) := by decide +kernel
theorem d_Mod_name_106 : decode prog_12_method_43_code 106 = .ok (.istore 4, 2) := by decide +kernel
theorem d_Mod_name_108 : decode prog_12_method_43_code 108 = .ok (.iinc 5 1, 3) := by decide +kernel
theorem d_Mod_name_111 : decode prog_12_method_43_code 111 = .ok (.goto (-53), 3) := by decide +kernel
theorem d_Mod_name_114 : decode prog_12_method_43_code 114 = .ok (.aload_n 0, 1) := by decide +kernel
theorem d_Mod_name_115 : decode prog_12_method_43_code 115 = .ok (.getfield 51, 3) := by decide +kernel
theorem d_Mod_name_118 : decode prog_12_method_43_code 118 = .ok (.iload_n 3, 1) := by decide +kernel
theorem d_Mod_name_119 : decode prog_12_method_43_code 119 = .ok (.iaload, 1) := by decide +kernel
theorem d_Mod_name_120 : decode prog_12_method_43_code 120 = .ok (.iload_n 1, 1) := by decide +kernel
theorem d_Mod_name_121 : decode prog_12_method_43_code 121 = .ok (.if_icmp .ne 56, 3) := by decide +kernel
theorem d_Mod_name_124 : decode prog_12_method_43_code 124 = .ok (.iload 4, 2) := by decide +kernel
theorem d_Mod_name_126 : decode prog_12_method_43_code 126 = .ok (.iload_n 2, 1) := by decide +kernel
theorem d_Mod_name_127 : decode prog_12_method_43_code 127 = .ok (.if_icmp .ne 50, 3) := by decide +kernel
theorem d_Mod_name_130 : decode prog_12_method_43_code 130 = .ok (.aload_n 0, 1) := by decide +kernel
theorem d_Mod_name_131 : decode prog_12_method_43_code 131 = .ok (.aload_n 0, 1) := by decide +kernel
theorem d_Mod_name_132 : decode prog_12_method_43_code 132 = .ok (.getfield 57, 3) := by decide +kernel
theorem d_Mod_name_135 : decode prog_12_method_43_code 135 = .ok (.iload_n 3, 1) := by decide +kernel
theorem d_Mod_name_136 : decode prog_12_method_43_code 136 = .ok (.iaload, 1) := by decide +kernel
theorem d_Mod_name_137 : decode prog_12_method_43_code 137 = .ok (.putfield 210, 3) := by decide +kernel
theorem d_Mod_name_140 : decode prog_12_method_43_code 140 = .ok (.iconst 0, 1) := by decide +kernel
theorem d_Mod_name_141 : decode prog_12_method_43_code 141 = .ok (.istore 5, 2) := by decide +kernel
theorem d_Mod_name_143 : decode prog_12_method_43_code 143 = .ok (.iload 5, 2) := by decide +kernel
theorem d_Mod_name_145 : decode prog_12_method_43_code 145 = .ok (.aload_n 0, 1) := by decide +kernel
theorem d_Mod_name_146 : decode prog_12_method_43_code 146 = .ok (.getfield 210, 3) := by decide +kernel
theorem d_Mod_name_149 : decode prog_12_method_43_code 149 = .ok (.if_icmp .ge 28, 3) := by decide +kernel
theorem d_Mod_name_152 : decode prog_12_method_43_code 152 = .ok (.aload_n 0, 1) := by decide +kernel
theorem d_Mod_name_153 : decode prog_12_method_43_code 153 = .ok (.getfield 17, 3) := by decide +kernel
theorem d_Mod_name_156 : decode prog_12_method_43_code 156 = .ok (.iload 5, 2) := by decide +kernel
theorem d_Mod_name_158 : decode prog_12_method_43_code 158 = .ok (.aload_n 0, 1) := by decide +kernel
theorem d_Mod_name_159 : decode prog_12_method_43_code 159 = .ok (.getfield 61, 3) := by decide +kernel
theorem d_Mod_name_162 : decode prog_12_method_43_code 162 = .ok (.bipush 20, 2) := by decide +kernel
theorem d_Mod_name_164 : decode prog_12_method_43_code 164 = .ok (.iload_n 3, 1) := by decide +kernel
theorem d_Mod_name_165 : decode prog_12_method_43_code 165 = .ok (.imul, 1) := by decide +kernel
theorem d_Mod_name_166 : decode prog_12_method_43_code 166 = .ok (.iload 5, 2) := by decide +kernel
theorem d_Mod_name_168 : decode prog_12_method_43_code 168 = .ok (.iadd, 1) := by decide +kernel
theorem d_Mod_name_169 : decode prog_12_method_43_code 169 = .ok (.baload, 1) := by decide +kernel
theorem d_Mod_name_170 : decode prog_12_method_43_code 170 = .ok (.bastore, 1) := by decide +kernel
theorem d_Mod_name_171 : decode prog_12_method_43_code 171 = .ok (.iinc 5 1, 3) := by decide +kernel
theorem d_Mod_name_174 : decode prog_12_method_43_code 174 = .ok (.goto (-31), 3) := by decide +kernel
theorem d_Mod_name_177 : decode prog_12_method_43_code 177 = .ok (.iinc 3 1, 3) := by decide +kernel
theorem d_Mod_name_180 : decode prog_12_method_43_code 180 = .ok (.goto (-136), 3) := by decide +kernel
theorem d_Mod_name_183 : decode prog_12_method_43_code 183 = .ok (.aload_n 0, 1) := by decide +kernel
theorem d_Mod_name_184 : decode prog_12_method_43_code 184 = .ok (.getfield 210, 3) := by decide +kernel
theorem d_Mod_name_187 : decode prog_12_method_43_code 187 = .ok (.ifCond .le 10, 3) := by decide +kernel
theorem d_Mod_name_190 : decode prog_12_method_43_code 190 = .ok (.aload_n 0, 1) := by decide +kernel
theorem d_Mod_name_191 : decode prog_12_method_43_code 191 = .ok (.getfield 210, 3) := by decide +kernel
theorem d_Mod_name_194 : decode prog_12_method_43_code 194 = .ok (.goto 4, 3) := by decide +kernel
theorem d_Mod_name_197 : decode prog_12_method_43_code 197 = .ok (.iconst (-1), 1) := by decide +kernel
theorem d_Mod_name_198 : decode prog_12_method_43_code 198 = .ok (.ireturn, 1) := by decide +kernel
set_option maxHeartbeats 4000000 in
set_option maxRecDepth 100000 in
theorem v_Mod_name_177 {p : Program} {l : Launch} {e : Env} {s : State} {m : MethodId} {args : Array Value} {below : List Frame} {meth : Method} {c : Code} {D : va_G} {ad : Nat → Nat} {ca : Nat → ClassId} {A : Nat → Prop} {FU : Nat} {q : Int32 × St} (X : FX p s m meth c prog_12_method_43_code 6 (some .int) "FlashFilesModel" D (tyM ca) A) {k44 : Int32 → Int32 → Int32 → St → Option (Int32 × St)} (hk44 : ∀ (y1 y2 y3 : Int32) (g : St) (H : Heap) (locs : List Loc) (ls : Array Slot), va_P D cls (wM ad ca g) H → va_D A (wM ad ca g) → va_S A s.heap H locs → lv_has ls 6 [(0, .ref (ad 0)), (1, .int y1), (2, .int y2), (3, .int y3)] → k44 y1 y2 y3 g = some q → W p l e (rmN 4) s m args below meth c H locs 0 0 (MQ below (fxQi D (tyM ca) A (wM ad ca q.2) q.1) args s 0 0 A) (F0 m 44 ls [])) {y1 : Int32} {y2 : Int32} {y3 : Int32} {g : St} {H : Heap} {locs : List Loc} {ls : Array Slot} (hP : va_P D cls (wM ad ca g) H) (hD : va_D A (wM ad ca g)) (hS : va_S A s.heap H locs) (hl : lv_has ls 6 [(0, .ref (ad 0)), (1, .int y1), (2, .int y2), (3, .int y3)]) (h : Mod_name_b177 FU k44 y1 y2 y3 g = some q) : W p l e (rmN 4) s m args below meth c H locs 0 0 (MQ below (fxQi D (tyM ca) A (wM ad ca q.2) q.1) args s 0 0 A) (F0 m 177 ls []) := by
  have hx := X.1
  have hb := X.2.1
  unfold Mod_name_b177 at h
  refine lv_iinc (k := 3) (v := (y3 + (1 : Int32))) hx hb d_Mod_name_177 hl rfl (oi_1 _) (by decide) rfl (fun ls hl => ?_)
  have hl : lv_has ls 6 [(3, .int (y3 + (1 : Int32))), (0, .ref (ad 0)), (1, .int y1), (2, .int y2)] := hl
  refine lv_goto (tgt := 44) hx hb d_Mod_name_180 (by decide) ?_
  exact hk44 _ _ _ _ _ _ _ hP hD hS (lv_sub hl [1, 2, 3, 0] rfl) h
set_option maxHeartbeats 4000000 in
set_option maxRecDepth 100000 in
theorem v_Mod_name_143 {p : Program} {l : Launch} {e : Env} {s : State} {m : MethodId} {args : Array Value} {below : List Frame} {meth : Method} {c : Code} {D : va_G} {ad : Nat → Nat} {ca : Nat → ClassId} {A : Nat → Prop} {FU : Nat} {q : Int32 × St} (X : FX p s m meth c prog_12_method_43_code 6 (some .int) "FlashFilesModel" D (tyM ca) A) {k44 : Int32 → Int32 → Int32 → St → Option (Int32 × St)} (hk44 : ∀ (y1 y2 y3 : Int32) (g : St) (H : Heap) (locs : List Loc) (ls : Array Slot), va_P D cls (wM ad ca g) H → va_D A (wM ad ca g) → va_S A s.heap H locs → lv_has ls 6 [(0, .ref (ad 0)), (1, .int y1), (2, .int y2), (3, .int y3)] → k44 y1 y2 y3 g = some q → W p l e (rmN 4) s m args below meth c H locs 0 0 (MQ below (fxQi D (tyM ca) A (wM ad ca q.2) q.1) args s 0 0 A) (F0 m 44 ls [])) : ∀ (n : Nat), ∀ (y1 y2 y3 y5 : Int32) (g : St) (H : Heap) (locs : List Loc) (ls : Array Slot), va_P D cls (wM ad ca g) H → va_D A (wM ad ca g) → va_S A s.heap H locs → lv_has ls 6 [(0, .ref (ad 0)), (1, .int y1), (2, .int y2), (3, .int y3), (5, .int y5)] → Mod_name_b143 FU k44 n y1 y2 y3 y5 g = some q → W p l e (rmN 4) s m args below meth c H locs 0 0 (MQ below (fxQi D (tyM ca) A (wM ad ca q.2) q.1) args s 0 0 A) (F0 m 143 ls []) := by
  have hx := X.1
  have hb := X.2.1
  intro n
  induction n with
  | zero =>
    intro y1 y2 y3 y5 g H locs ls hP hD hS hl h
    cases h
  | succ n ih =>
    intro y1 y2 y3 y5 g H locs ls hP hD hS hl h
    have h := h
    rw [Mod_name_b143.eq_2] at h
    refine lv_iload hx hb d_Mod_name_143 (lv_at hl 4 rfl) ?_
    refine lv_aload_n hx hb d_Mod_name_145 rfl (lv_at hl 0 rfl) ?_
    refine gM_mod_toldSize X hP d_Mod_name_146 ?_
    refine lv_icmp_ge (tgt := 177) hx hb d_Mod_name_149 (by decide) (fun hc => ?_) (fun hc => ?_)
    · have h := if_t hc h
      exact v_Mod_name_177 X hk44 hP hD hS (lv_sub hl [0, 1, 2, 3] rfl) h
    · have h := if_f hc h
      refine lv_aload_n hx hb d_Mod_name_152 rfl (lv_at hl 0 rfl) ?_
      refine gM_mod_told X hP d_Mod_name_153 ?_
      refine lv_iload hx hb d_Mod_name_156 (lv_at hl 4 rfl) ?_
      refine lv_aload_n hx hb d_Mod_name_158 rfl (lv_at hl 0 rfl) ?_
      refine gM_mod_entryName X hP d_Mod_name_159 ?_
      refine lv_bipush (v := 20) hx hb d_Mod_name_162 (by decide) ?_
      refine lv_iload_n hx hb d_Mod_name_164 rfl (lv_at hl 3 rfl) ?_
      refine lv_imul hx hb d_Mod_name_165 ?_
      refine lv_iload hx hb d_Mod_name_166 (lv_at hl 4 rfl) ?_
      refine lv_iadd hx hb d_Mod_name_168 ?_
      obtain ⟨v1, e1, h⟩ := bd_some h
      refine rM_14 X hP e1 d_Mod_name_169 ?_
      obtain ⟨g2, e1, h⟩ := bd_some h
      refine sM_1 X hP hD hS e1 d_Mod_name_170 (fun H locs hP hD hS => ?_)
      refine lv_iinc (k := 4) (v := (y5 + (1 : Int32))) hx hb d_Mod_name_171 hl rfl (oi_1 _) (by decide) rfl (fun ls hl => ?_)
      have hl : lv_has ls 6 [(5, .int (y5 + (1 : Int32))), (0, .ref (ad 0)), (1, .int y1), (2, .int y2), (3, .int y3)] := hl
      refine lv_goto (tgt := 143) hx hb d_Mod_name_174 (by decide) ?_
      exact ih _ _ _ _ _ _ _ _ hP hD hS (lv_sub hl [1, 2, 3, 4, 0] rfl) h
set_option maxHeartbeats 4000000 in
set_option maxRecDepth 100000 in
theorem v_Mod_name_105 {p : Program} {l : Launch} {e : Env} {s : State} {m : MethodId} {args : Array Value} {below : List Frame} {meth : Method} {c : Code} {D : va_G} {ad : Nat → Nat} {ca : Nat → ClassId} {A : Nat → Prop} {FU : Nat} {q : Int32 × St} (X : FX p s m meth c prog_12_method_43_code 6 (some .int) "FlashFilesModel" D (tyM ca) A) {k58 : Int32 → Int32 → Int32 → Int32 → Int32 → St → Option (Int32 × St)} (hk58 : ∀ (y1 y2 y3 y4 y5 : Int32) (g : St) (H : Heap) (locs : List Loc) (ls : Array Slot), va_P D cls (wM ad ca g) H → va_D A (wM ad ca g) → va_S A s.heap H locs → lv_has ls 6 [(0, .ref (ad 0)), (1, .int y1), (2, .int y2), (3, .int y3), (4, .int y4), (5, .int y5)] → k58 y1 y2 y3 y4 y5 g = some q → W p l e (rmN 4) s m args below meth c H locs 0 0 (MQ below (fxQi D (tyM ca) A (wM ad ca q.2) q.1) args s 0 0 A) (F0 m 58 ls [])) {y1 : Int32} {y2 : Int32} {y3 : Int32} {y5 : Int32} {z0 : Int32} {z1 : Int32} {g : St} {H : Heap} {locs : List Loc} {ls : Array Slot} (hP : va_P D cls (wM ad ca g) H) (hD : va_D A (wM ad ca g)) (hS : va_S A s.heap H locs) (hl : lv_has ls 6 [(0, .ref (ad 0)), (1, .int y1), (2, .int y2), (3, .int y3), (5, .int y5)]) (h : Mod_name_b105 FU k58 y1 y2 y3 y5 z0 z1 g = some q) : W p l e (rmN 4) s m args below meth c H locs 0 0 (MQ below (fxQi D (tyM ca) A (wM ad ca q.2) q.1) args s 0 0 A) (F0 m 105 ls [.int z0, .int z1]) := by
  have hx := X.1
  have hb := X.2.1
  unfold Mod_name_b105 at h
  refine lv_iadd hx hb d_Mod_name_105 ?_
  refine lv_istore hx hb d_Mod_name_106 hl (by decide) rfl (fun ls hl => ?_)
  have hl : lv_has ls 6 [(4, .int (z1 + z0)), (0, .ref (ad 0)), (1, .int y1), (2, .int y2), (3, .int y3), (5, .int y5)] := hl
  refine lv_iinc (k := 5) (v := (y5 + (1 : Int32))) hx hb d_Mod_name_108 hl rfl (oi_1 _) (by decide) rfl (fun ls hl => ?_)
  have hl : lv_has ls 6 [(5, .int (y5 + (1 : Int32))), (4, .int (z1 + z0)), (0, .ref (ad 0)), (1, .int y1), (2, .int y2), (3, .int y3)] := hl
  refine lv_goto (tgt := 58) hx hb d_Mod_name_111 (by decide) ?_
  exact hk58 _ _ _ _ _ _ _ _ _ hP hD hS (lv_sub hl [2, 3, 4, 5, 1, 0] rfl) h
set_option maxHeartbeats 4000000 in
set_option maxRecDepth 100000 in
theorem v_Mod_name_104 {p : Program} {l : Launch} {e : Env} {s : State} {m : MethodId} {args : Array Value} {below : List Frame} {meth : Method} {c : Code} {D : va_G} {ad : Nat → Nat} {ca : Nat → ClassId} {A : Nat → Prop} {FU : Nat} {q : Int32 × St} (X : FX p s m meth c prog_12_method_43_code 6 (some .int) "FlashFilesModel" D (tyM ca) A) {k58 : Int32 → Int32 → Int32 → Int32 → Int32 → St → Option (Int32 × St)} (hk58 : ∀ (y1 y2 y3 y4 y5 : Int32) (g : St) (H : Heap) (locs : List Loc) (ls : Array Slot), va_P D cls (wM ad ca g) H → va_D A (wM ad ca g) → va_S A s.heap H locs → lv_has ls 6 [(0, .ref (ad 0)), (1, .int y1), (2, .int y2), (3, .int y3), (4, .int y4), (5, .int y5)] → k58 y1 y2 y3 y4 y5 g = some q → W p l e (rmN 4) s m args below meth c H locs 0 0 (MQ below (fxQi D (tyM ca) A (wM ad ca q.2) q.1) args s 0 0 A) (F0 m 58 ls [])) {y1 : Int32} {y2 : Int32} {y3 : Int32} {y5 : Int32} {z0 : Int32} {g : St} {H : Heap} {locs : List Loc} {ls : Array Slot} (hP : va_P D cls (wM ad ca g) H) (hD : va_D A (wM ad ca g)) (hS : va_S A s.heap H locs) (hl : lv_has ls 6 [(0, .ref (ad 0)), (1, .int y1), (2, .int y2), (3, .int y3), (5, .int y5)]) (h : Mod_name_b104 FU k58 y1 y2 y3 y5 z0 g = some q) : W p l e (rmN 4) s m args below meth c H locs 0 0 (MQ below (fxQi D (tyM ca) A (wM ad ca q.2) q.1) args s 0 0 A) (F0 m 104 ls [.int z0]) := by
  have hx := X.1
  have hb := X.2.1
  unfold Mod_name_b104 at h
  refine lv_iconst (v := 0) hx hb d_Mod_name_104 (by decide) ?_
  exact v_Mod_name_105 X hk58 hP hD hS (lv_sub hl [0, 1, 2, 3, 4] rfl) h
set_option maxHeartbeats 4000000 in
set_option maxRecDepth 100000 in
theorem v_Mod_name_58 {p : Program} {l : Launch} {e : Env} {s : State} {m : MethodId} {args : Array Value} {below : List Frame} {meth : Method} {c : Code} {D : va_G} {ad : Nat → Nat} {ca : Nat → ClassId} {A : Nat → Prop} {FU : Nat} {q : Int32 × St} (X : FX p s m meth c prog_12_method_43_code 6 (some .int) "FlashFilesModel" D (tyM ca) A) {k44 : Int32 → Int32 → Int32 → St → Option (Int32 × St)} (hk44 : ∀ (y1 y2 y3 : Int32) (g : St) (H : Heap) (locs : List Loc) (ls : Array Slot), va_P D cls (wM ad ca g) H → va_D A (wM ad ca g) → va_S A s.heap H locs → lv_has ls 6 [(0, .ref (ad 0)), (1, .int y1), (2, .int y2), (3, .int y3)] → k44 y1 y2 y3 g = some q → W p l e (rmN 4) s m args below meth c H locs 0 0 (MQ below (fxQi D (tyM ca) A (wM ad ca q.2) q.1) args s 0 0 A) (F0 m 44 ls [])) : ∀ (n : Nat), ∀ (y1 y2 y3 y4 y5 : Int32) (g : St) (H : Heap) (locs : List Loc) (ls : Array Slot), va_P D cls (wM ad ca g) H → va_D A (wM ad ca g) → va_S A s.heap H locs → lv_has ls 6 [(0, .ref (ad 0)), (1, .int y1), (2, .int y2), (3, .int y3), (4, .int y4), (5, .int y5)] → Mod_name_b58 FU k44 n y1 y2 y3 y4 y5 g = some q → W p l e (rmN 4) s m args below meth c H locs 0 0 (MQ below (fxQi D (tyM ca) A (wM ad ca q.2) q.1) args s 0 0 A) (F0 m 58 ls []) := by
  have hx := X.1
  have hb := X.2.1
  intro n
  induction n with
  | zero =>
    intro y1 y2 y3 y4 y5 g H locs ls hP hD hS hl h
    cases h
  | succ n ih =>
    intro y1 y2 y3 y4 y5 g H locs ls hP hD hS hl h
    have h := h
    rw [Mod_name_b58.eq_2] at h
    refine lv_iload hx hb d_Mod_name_58 (lv_at hl 5 rfl) ?_
    refine lv_aload_n hx hb d_Mod_name_60 rfl (lv_at hl 0 rfl) ?_
    refine gM_mod_entries X hP d_Mod_name_61 ?_
    refine lv_icmp_ge (tgt := 114) hx hb d_Mod_name_64 (by decide) (fun hc => ?_) (fun hc => ?_)
    · have h := if_t hc h
      refine lv_aload_n hx hb d_Mod_name_114 rfl (lv_at hl 0 rfl) ?_
      refine gM_mod_entryDirectory X hP d_Mod_name_115 ?_
      refine lv_iload_n hx hb d_Mod_name_118 rfl (lv_at hl 3 rfl) ?_
      obtain ⟨v3, e1, h⟩ := bd_some h
      refine rM_11 X hP e1 d_Mod_name_119 ?_
      refine lv_iload_n hx hb d_Mod_name_120 rfl (lv_at hl 1 rfl) ?_
      refine lv_icmp_ne (tgt := 177) hx hb d_Mod_name_121 (by decide) (fun hc => ?_) (fun hc => ?_)
      · have h := if_f hc h
        exact v_Mod_name_177 X hk44 hP hD hS (lv_sub hl [0, 1, 2, 3] rfl) h
      · have h := if_t hc h
        refine lv_iload hx hb d_Mod_name_124 (lv_at hl 4 rfl) ?_
        refine lv_iload_n hx hb d_Mod_name_126 rfl (lv_at hl 2 rfl) ?_
        refine lv_icmp_ne (tgt := 177) hx hb d_Mod_name_127 (by decide) (fun hc => ?_) (fun hc => ?_)
        · have h := if_f hc h
          exact v_Mod_name_177 X hk44 hP hD hS (lv_sub hl [0, 1, 2, 3] rfl) h
        · have h := if_t hc h
          refine lv_aload_n hx hb d_Mod_name_130 rfl (lv_at hl 0 rfl) ?_
          refine lv_aload_n hx hb d_Mod_name_131 rfl (lv_at hl 0 rfl) ?_
          refine gM_mod_entryLength X hP d_Mod_name_132 ?_
          refine lv_iload_n hx hb d_Mod_name_135 rfl (lv_at hl 3 rfl) ?_
          obtain ⟨v4, e1, h⟩ := bd_some h
          refine rM_13 X hP e1 d_Mod_name_136 ?_
          obtain ⟨g5, e1, h⟩ := nx_some h
          refine uM_mod_toldSize X hP hD hS e1 d_Mod_name_137 (fun H locs hP hD hS => ?_)
          refine lv_iconst (v := 0) hx hb d_Mod_name_140 (by decide) ?_
          refine lv_istore hx hb d_Mod_name_141 hl (by decide) rfl (fun ls hl => ?_)
          have hl : lv_has ls 6 [(5, .int (0 : Int32)), (0, .ref (ad 0)), (1, .int y1), (2, .int y2), (3, .int y3), (4, .int y4)] := hl
          exact v_Mod_name_143 X hk44 _ _ _ _ _ _ _ _ _ hP hD hS (lv_sub hl [1, 2, 3, 4, 0] rfl) h
    · have h := if_f hc h
      refine lv_iload hx hb d_Mod_name_67 (lv_at hl 4 rfl) ?_
      refine lv_aload_n hx hb d_Mod_name_69 rfl (lv_at hl 0 rfl) ?_
      refine gM_mod_entryDirectory X hP d_Mod_name_70 ?_
      refine lv_iload hx hb d_Mod_name_73 (lv_at hl 5 rfl) ?_
      obtain ⟨v6, e1, h⟩ := bd_some h
      refine rM_11 X hP e1 d_Mod_name_75 ?_
      refine lv_iload_n hx hb d_Mod_name_76 rfl (lv_at hl 1 rfl) ?_
      refine lv_icmp_ne (tgt := 104) hx hb d_Mod_name_77 (by decide) (fun hc => ?_) (fun hc => ?_)
      · have h := if_f hc h
        exact v_Mod_name_104 X ih hP hD hS (lv_sub hl [0, 1, 2, 3, 5] rfl) h
      · have h := if_t hc h
        refine lv_aload_n hx hb d_Mod_name_80 rfl (lv_at hl 0 rfl) ?_
        refine gM_mod_entryDirectory X hP d_Mod_name_81 ?_
        refine lv_iload_n hx hb d_Mod_name_84 rfl (lv_at hl 3 rfl) ?_
        obtain ⟨v7, e1, h⟩ := bd_some h
        refine rM_11 X hP e1 d_Mod_name_85 ?_
        refine lv_iload_n hx hb d_Mod_name_86 rfl (lv_at hl 1 rfl) ?_
        refine lv_icmp_ne (tgt := 104) hx hb d_Mod_name_87 (by decide) (fun hc => ?_) (fun hc => ?_)
        · have h := if_f hc h
          exact v_Mod_name_104 X ih hP hD hS (lv_sub hl [0, 1, 2, 3, 5] rfl) h
        · have h := if_t hc h
          refine lv_aload_n hx hb d_Mod_name_90 rfl (lv_at hl 0 rfl) ?_
          refine lv_iload hx hb d_Mod_name_91 (lv_at hl 5 rfl) ?_
          refine lv_iload_n hx hb d_Mod_name_93 rfl (lv_at hl 3 rfl) ?_
          obtain ⟨v8, e1, h⟩ := bd_some h
          refine fx_i X (fx_runV (As := [.int y5, .int y3]) X (m_Mod_isBefore e1 _) hP hD kv_Mod_213 ⟨Nat.le_of_ble_eq_true rfl, Nat.le_of_ble_eq_true rfl⟩ 0 rfl rfl rfl hl.1 rfl (Nat.le_of_ble_eq_true rfl) d_Mod_name_94) hD hS (fun H locs hP hD hS => ?_)
          refine lv_if_eq (tgt := 104) hx hb d_Mod_name_97 (by decide) (fun hc => ?_) (fun hc => ?_)
          · have h := if_t hc h
            exact v_Mod_name_104 X ih hP hD hS (lv_sub hl [0, 1, 2, 3, 5] rfl) h
          · have h := if_f hc h
            refine lv_iconst (v := 1) hx hb d_Mod_name_100 (by decide) ?_
            refine lv_goto (tgt := 105) hx hb d_Mod_name_101 (by decide) ?_
            exact v_Mod_name_105 X ih hP hD hS (lv_sub hl [0, 1, 2, 3, 5] rfl) h
set_option maxHeartbeats 4000000 in
set_option maxRecDepth 100000 in
theorem v_Mod_name_44 {p : Program} {l : Launch} {e : Env} {s : State} {m : MethodId} {args : Array Value} {below : List Frame} {meth : Method} {c : Code} {D : va_G} {ad : Nat → Nat} {ca : Nat → ClassId} {A : Nat → Prop} {FU : Nat} {q : Int32 × St} (X : FX p s m meth c prog_12_method_43_code 6 (some .int) "FlashFilesModel" D (tyM ca) A) : ∀ (n : Nat), ∀ (y1 y2 y3 : Int32) (g : St) (H : Heap) (locs : List Loc) (ls : Array Slot), va_P D cls (wM ad ca g) H → va_D A (wM ad ca g) → va_S A s.heap H locs → lv_has ls 6 [(0, .ref (ad 0)), (1, .int y1), (2, .int y2), (3, .int y3)] → Mod_name_b44 FU n y1 y2 y3 g = some q → W p l e (rmN 4) s m args below meth c H locs 0 0 (MQ below (fxQi D (tyM ca) A (wM ad ca q.2) q.1) args s 0 0 A) (F0 m 44 ls []) := by
  have hx := X.1
  have hb := X.2.1
  intro n
  induction n with
  | zero =>
    intro y1 y2 y3 g H locs ls hP hD hS hl h
    cases h
  | succ n ih =>
    intro y1 y2 y3 g H locs ls hP hD hS hl h
    have h := h
    rw [Mod_name_b44.eq_2] at h
    refine lv_iload_n hx hb d_Mod_name_44 rfl (lv_at hl 3 rfl) ?_
    refine lv_aload_n hx hb d_Mod_name_45 rfl (lv_at hl 0 rfl) ?_
    refine gM_mod_entries X hP d_Mod_name_46 ?_
    refine lv_icmp_ge (tgt := 183) hx hb d_Mod_name_49 (by decide) (fun hc => ?_) (fun hc => ?_)
    · have h := if_t hc h
      refine lv_aload_n hx hb d_Mod_name_183 rfl (lv_at hl 0 rfl) ?_
      refine gM_mod_toldSize X hP d_Mod_name_184 ?_
      refine lv_if_le (tgt := 197) hx hb d_Mod_name_187 (by decide) (fun hc => ?_) (fun hc => ?_)
      · have h := if_t hc h
        refine lv_iconst (v := -1) hx hb d_Mod_name_197 (by decide) ?_
        cases h
        exact fx_iret X hP hD hS d_Mod_name_198
      · have h := if_f hc h
        refine lv_aload_n hx hb d_Mod_name_190 rfl (lv_at hl 0 rfl) ?_
        refine gM_mod_toldSize X hP d_Mod_name_191 ?_
        refine lv_goto (tgt := 198) hx hb d_Mod_name_194 (by decide) ?_
        cases h
        exact fx_iret X hP hD hS d_Mod_name_198
    · have h := if_f hc h
      refine lv_iconst (v := 0) hx hb d_Mod_name_52 (by decide) ?_
      refine lv_istore hx hb d_Mod_name_53 hl (by decide) rfl (fun ls hl => ?_)
      have hl : lv_has ls 6 [(4, .int (0 : Int32)), (0, .ref (ad 0)), (1, .int y1), (2, .int y2), (3, .int y3)] := hl
      refine lv_iconst (v := 0) hx hb d_Mod_name_55 (by decide) ?_
      refine lv_istore hx hb d_Mod_name_56 hl (by decide) rfl (fun ls hl => ?_)
      have hl : lv_has ls 6 [(5, .int (0 : Int32)), (4, .int (0 : Int32)), (0, .ref (ad 0)), (1, .int y1), (2, .int y2), (3, .int y3)] := hl
      exact v_Mod_name_58 X ih _ _ _ _ _ _ _ _ _ _ hP hD hS (lv_sub hl [2, 3, 4, 5, 1, 0] rfl) h
set_option maxHeartbeats 4000000 in
set_option maxRecDepth 100000 in
theorem v_Mod_name_28 {p : Program} {l : Launch} {e : Env} {s : State} {m : MethodId} {args : Array Value} {below : List Frame} {meth : Method} {c : Code} {D : va_G} {ad : Nat → Nat} {ca : Nat → ClassId} {A : Nat → Prop} {FU : Nat} {q : Int32 × St} (X : FX p s m meth c prog_12_method_43_code 6 (some .int) "FlashFilesModel" D (tyM ca) A) {y1 : Int32} {y2 : Int32} {z0 : Int32} {g : St} {H : Heap} {locs : List Loc} {ls : Array Slot} (hP : va_P D cls (wM ad ca g) H) (hD : va_D A (wM ad ca g)) (hS : va_S A s.heap H locs) (hl : lv_has ls 6 [(0, .ref (ad 0)), (1, .int y1), (2, .int y2)]) (h : Mod_name_b28 FU y1 y2 z0 g = some q) : W p l e (rmN 4) s m args below meth c H locs 0 0 (MQ below (fxQi D (tyM ca) A (wM ad ca q.2) q.1) args s 0 0 A) (F0 m 28 ls [.int z0, .ref (ad 0)]) := by
  have hx := X.1
  have hb := X.2.1
  unfold Mod_name_b28 at h
  refine lv_iconst (v := 0) hx hb d_Mod_name_28 (by decide) ?_
  obtain ⟨p9, e1, h⟩ := bd_some h
  refine fx_i X (fx_runV (As := [.int z0, .int (0 : Int32)]) X (m_Mod_throwing e1 _) hP hD kv_Mod_148 ⟨Nat.le_of_ble_eq_true rfl, Nat.le_of_ble_eq_true rfl⟩ 0 rfl rfl rfl hl.1 rfl (Nat.le_of_ble_eq_true rfl) d_Mod_name_29) hD hS (fun H locs hP hD hS => ?_)
  refine lv_if_eq (tgt := 37) hx hb d_Mod_name_32 (by decide) (fun hc => ?_) (fun hc => ?_)
  · have h := if_t hc h
    refine lv_aload_n hx hb d_Mod_name_37 rfl (lv_at hl 0 rfl) ?_
    refine lv_iconst (v := 0) hx hb d_Mod_name_38 (by decide) ?_
    obtain ⟨g10, e1, h⟩ := nx_some h
    refine uM_mod_toldSize X hP hD hS e1 d_Mod_name_39 (fun H locs hP hD hS => ?_)
    refine lv_iconst (v := 0) hx hb d_Mod_name_42 (by decide) ?_
    refine lv_istore_n hx hb d_Mod_name_43 rfl hl (by decide) rfl (fun ls hl => ?_)
    have hl : lv_has ls 6 [(3, .int (0 : Int32)), (0, .ref (ad 0)), (1, .int y1), (2, .int y2)] := hl
    exact v_Mod_name_44 X  _ _ _ _ _ _ _ _ hP hD hS (lv_sub hl [1, 2, 3, 0] rfl) h
  · have h := if_f hc h
    refine lv_iconst (v := 0) hx hb d_Mod_name_35 (by decide) ?_
    cases h
    exact fx_iret X hP hD hS d_Mod_name_36
set_option maxHeartbeats 4000000 in
set_option maxRecDepth 100000 in
theorem v_Mod_name_23 {p : Program} {l : Launch} {e : Env} {s : State} {m : MethodId} {args : Array Value} {below : List Frame} {meth : Method} {c : Code} {D : va_G} {ad : Nat → Nat} {ca : Nat → ClassId} {A : Nat → Prop} {FU : Nat} {q : Int32 × St} (X : FX p s m meth c prog_12_method_43_code 6 (some .int) "FlashFilesModel" D (tyM ca) A) {y1 : Int32} {y2 : Int32} {g : St} {H : Heap} {locs : List Loc} {ls : Array Slot} (hP : va_P D cls (wM ad ca g) H) (hD : va_D A (wM ad ca g)) (hS : va_S A s.heap H locs) (hl : lv_has ls 6 [(0, .ref (ad 0)), (1, .int y1), (2, .int y2)]) (h : Mod_name_b23 FU y1 y2 g = some q) : W p l e (rmN 4) s m args below meth c H locs 0 0 (MQ below (fxQi D (tyM ca) A (wM ad ca q.2) q.1) args s 0 0 A) (F0 m 23 ls [.ref (ad 0)]) := by
  have hx := X.1
  have hb := X.2.1
  unfold Mod_name_b23 at h
  refine lv_iconst (v := 1) hx hb d_Mod_name_23 (by decide) ?_
  refine lv_goto (tgt := 28) hx hb d_Mod_name_24 (by decide) ?_
  exact v_Mod_name_28 X  hP hD hS (lv_sub hl [0, 1, 2] rfl) h
set_option maxHeartbeats 4000000 in
set_option maxRecDepth 100000 in
theorem m_Mod_name {l : Launch} {D : va_G} {ad : Nat → Nat} {ca : Nat → ClassId} {FU : Nat} {x1 : Int32} {x2 : Int32} {g : St} {q : Int32 × St} (h : Mod_name FU x1 x2 g = some q) : CI l ⟨"FlashFilesModel", "name", "(II)I"⟩ prog_12_method_43_code 6 4 (some .int) D (tyM ca) (wM ad ca g) [.ref (ad 0), .int x1, .int x2] q.1 (wM ad ca q.2) := by
  intro sz
  refine Met.fx (Qc := fun A => fxQi D (tyM ca) A (wM ad ca q.2) q.1) (by decide) (Nat.le_of_ble_eq_true rfl) ?_
  intro p e s m below meth c A ls X hP hD hl
  have hl : lv_has ls 6 [(0, .ref (ad 0)), (1, .int x1), (2, .int x2)] := hl
  have hS : va_S A s.heap s.heap [] := va_S.rf
  have hx := X.1
  have hb := X.2.1
  unfold Mod_name at h
  refine lv_aload_n hx hb d_Mod_name_0 rfl (lv_at hl 0 rfl) ?_
  obtain ⟨p11, e1, h⟩ := bd_some h
  refine fx_i X (fx_runV (As := []) X (m_Mod_isOff e1 _) hP hD kv_Mod_169 ⟨Nat.le_of_ble_eq_true rfl, Nat.le_of_ble_eq_true rfl⟩ 0 rfl rfl rfl hl.1 rfl (Nat.le_of_ble_eq_true rfl) d_Mod_name_1) hD hS (fun H locs hP hD hS => ?_)
  refine lv_if_eq (tgt := 9) hx hb d_Mod_name_4 (by decide) (fun hc => ?_) (fun hc => ?_)
  · have h := if_t hc h
    refine lv_aload_n hx hb d_Mod_name_9 rfl (lv_at hl 0 rfl) ?_
    refine lv_aload_n hx hb d_Mod_name_10 rfl (lv_at hl 0 rfl) ?_
    refine lv_iload_n hx hb d_Mod_name_11 rfl (lv_at hl 1 rfl) ?_
    refine lv_iconst (v := 2) hx hb d_Mod_name_12 (by decide) ?_
    obtain ⟨v12, e1, h⟩ := bd_some h
    refine fx_i X (fx_runV (As := [.int x1, .int (2 : Int32)]) X (m_Mod_is e1 _) hP hD kv_Mod_172 ⟨Nat.le_of_ble_eq_true rfl, Nat.le_of_ble_eq_true rfl⟩ 0 rfl rfl rfl hl.1 rfl (Nat.le_of_ble_eq_true rfl) d_Mod_name_13) hD hS (fun H locs hP hD hS => ?_)
    refine lv_if_eq (tgt := 23) hx hb d_Mod_name_16 (by decide) (fun hc => ?_) (fun hc => ?_)
    · have h := if_t hc h
      exact v_Mod_name_23 X  hP hD hS (lv_sub hl [0, 1, 2] rfl) h
    · have h := if_f hc h
      refine lv_iload_n hx hb d_Mod_name_19 rfl (lv_at hl 2 rfl) ?_
      refine lv_if_ge (tgt := 27) hx hb d_Mod_name_20 (by decide) (fun hc => ?_) (fun hc => ?_)
      · have h := if_t hc h
        refine lv_iconst (v := 0) hx hb d_Mod_name_27 (by decide) ?_
        exact v_Mod_name_28 X  hP hD hS (lv_sub hl [0, 1, 2] rfl) h
      · have h := if_f hc h
        exact v_Mod_name_23 X  hP hD hS (lv_sub hl [0, 1, 2] rfl) h
  · have h := if_f hc h
    refine lv_iconst (v := 0) hx hb d_Mod_name_7 (by decide) ?_
    cases h
    exact fx_iret X hP hD hS d_Mod_name_8
theorem d_Mod_grow_0 : decode prog_12_method_44_code 0 = .ok (.aload_n 0, 1) := by decide +kernel
theorem d_Mod_grow_1 : decode prog_12_method_44_code 1 = .ok (.getfield 24, 3) := by decide +kernel
theorem d_Mod_grow_4 : decode prog_12_method_44_code 4 = .ok (.iload_n 1, 1) := by decide +kernel
theorem d_Mod_grow_5 : decode prog_12_method_44_code 5 = .ok (.aload_n 0, 1) := by decide +kernel
theorem d_Mod_grow_6 : decode prog_12_method_44_code 6 = .ok (.getfield 24, 3) := by decide +kernel
theorem d_Mod_grow_9 : decode prog_12_method_44_code 9 = .ok (.iload_n 1, 1) := by decide +kernel
theorem d_Mod_grow_10 : decode prog_12_method_44_code 10 = .ok (.iaload, 1) := by decide +kernel
theorem d_Mod_grow_11 : decode prog_12_method_44_code 11 = .ok (.iload_n 2, 1) := by decide +kernel
theorem d_Mod_grow_12 : decode prog_12_method_44_code 12 = .ok (.if_icmp .ge 7, 3) := by decide +kernel
theorem d_Mod_grow_15 : decode prog_12_method_44_code 15 = .ok (.iload_n 2, 1) := by decide +kernel
theorem d_Mod_grow_16 : decode prog_12_method_44_code 16 = .ok (.goto 9, 3) := by decide +kernel
theorem d_Mod_grow_19 : decode prog_12_method_44_code 19 = .ok (.aload_n 0, 1) := by decide +kernel
theorem d_Mod_grow_20 : decode prog_12_method_44_code 20 = .ok (.getfield 24, 3) := by decide +kernel
theorem d_Mod_grow_23 : decode prog_12_method_44_code 23 = .ok (.iload_n 1, 1) := by decide +kernel
theorem d_Mod_grow_24 : decode prog_12_method_44_code 24 = .ok (.iaload, 1) := by decide +kernel
theorem d_Mod_grow_25 : decode prog_12_method_44_code 25 = .ok (.iastore, 1) := by decide +kernel
theorem d_Mod_grow_26 : decode prog_12_method_44_code 26 = .ok (.aload_n 0, 1) := by decide +kernel
theorem d_Mod_grow_27 : decode prog_12_method_44_code 27 = .ok (.getfield 30, 3) := by decide +kernel
theorem d_Mod_grow_30 : decode prog_12_method_44_code 30 = .ok (.iload_n 1, 1) := by decide +kernel
theorem d_Mod_grow_31 : decode prog_12_method_44_code 31 = .ok (.baload, 1) := by decide +kernel
theorem d_Mod_grow_32 : decode prog_12_method_44_code 32 = .ok (.ifCond .eq 28, 3) := by decide +kernel
theorem d_Mod_grow_35 : decode prog_12_method_44_code 35 = .ok (.aload_n 0, 1) := by decide +kernel
theorem d_Mod_grow_36 : decode prog_12_method_44_code 36 = .ok (.getfield 24, 3) := by decide +kernel
theorem d_Mod_grow_39 : decode prog_12_method_44_code 39 = .ok (.iload_n 1, 1) := by decide +kernel
theorem d_Mod_grow_40 : decode prog_12_method_44_code 40 = .ok (.iaload, 1) := by decide +kernel
theorem d_Mod_grow_41 : decode prog_12_method_44_code 41 = .ok (.bipush 96, 2) := by decide +kernel
theorem d_Mod_grow_43 : decode prog_12_method_44_code 43 = .ok (.if_icmp .le 17, 3) := by decide +kernel
theorem d_Mod_grow_46 : decode prog_12_method_44_code 46 = .ok (.aload_n 0, 1) := by decide +kernel
theorem d_Mod_grow_47 : decode prog_12_method_44_code 47 = .ok (.getfield 30, 3) := by decide +kernel
theorem d_Mod_grow_50 : decode prog_12_method_44_code 50 = .ok (.iload_n 1, 1) := by decide +kernel
theorem d_Mod_grow_51 : decode prog_12_method_44_code 51 = .ok (.iconst 0, 1) := by decide +kernel
theorem d_Mod_grow_52 : decode prog_12_method_44_code 52 = .ok (.bastore, 1) := by decide +kernel
theorem d_Mod_grow_53 : decode prog_12_method_44_code 53 = .ok (.aload_n 0, 1) := by decide +kernel
theorem d_Mod_grow_54 : decode prog_12_method_44_code 54 = .ok (.iload_n 1, 1) := by decide +kernel
theorem d_Mod_grow_55 : decode prog_12_method_44_code 55 = .ok (.iconst 0, 1) := by decide +kernel
theorem d_Mod_grow_56 : decode prog_12_method_44_code 56 = .ok (.invokevirtual 216, 3) := by decide +kernel
theorem d_Mod_grow_59 : decode prog_12_method_44_code 59 = .ok (.pop, 1) := by decide +kernel
theorem d_Mod_grow_60 : decode prog_12_method_44_code 60 = .ok (.return_, 1) := by decide +kernel
set_option maxHeartbeats 4000000 in
set_option maxRecDepth 100000 in
theorem v_Mod_grow_25 {p : Program} {l : Launch} {e : Env} {s : State} {m : MethodId} {args : Array Value} {below : List Frame} {meth : Method} {c : Code} {D : va_G} {ad : Nat → Nat} {ca : Nat → ClassId} {A : Nat → Prop} {FU : Nat} {q : St} (X : FX p s m meth c prog_12_method_44_code 3 none "FlashFilesModel" D (tyM ca) A) {y1 : Int32} {z0 : Int32} {z1 : Int32} {g : St} {H : Heap} {locs : List Loc} {ls : Array Slot} (hP : va_P D cls (wM ad ca g) H) (hD : va_D A (wM ad ca g)) (hS : va_S A s.heap H locs) (hl : lv_has ls 3 [(0, .ref (ad 0)), (1, .int y1)]) (h : Mod_grow_b25 FU y1 z0 z1 g = some q) : W p l e (rmN 3) s m args below meth c H locs 0 0 (MQ below (fxQv D (tyM ca) A (wM ad ca q)) args s 0 0 A) (F0 m 25 ls [.int z0, .int z1, .ref (ad 4)]) := by
  have hx := X.1
  have hb := X.2.1
  unfold Mod_grow_b25 at h
  obtain ⟨g1, e1, h⟩ := bd_some h
  refine sM_3 X hP hD hS e1 d_Mod_grow_25 (fun H locs hP hD hS => ?_)
  refine lv_aload_n hx hb d_Mod_grow_26 rfl (lv_at hl 0 rfl) ?_
  refine gM_mod_small X hP d_Mod_grow_27 ?_
  refine lv_iload_n hx hb d_Mod_grow_30 rfl (lv_at hl 1 rfl) ?_
  obtain ⟨v2, e1, h⟩ := bd_some h
  refine rM_5 X hP e1 d_Mod_grow_31 ?_
  refine lv_if_eq (tgt := 60) hx hb d_Mod_grow_32 (by decide) (fun hc => ?_) (fun hc => ?_)
  · have h := if_t hc h
    cases h
    exact fx_vret X hP hD hS d_Mod_grow_60
  · have h := if_f hc h
    refine lv_aload_n hx hb d_Mod_grow_35 rfl (lv_at hl 0 rfl) ?_
    refine gM_mod_size X hP d_Mod_grow_36 ?_
    refine lv_iload_n hx hb d_Mod_grow_39 rfl (lv_at hl 1 rfl) ?_
    obtain ⟨v3, e1, h⟩ := bd_some h
    refine rM_3 X hP e1 d_Mod_grow_40 ?_
    refine lv_bipush (v := 96) hx hb d_Mod_grow_41 (by decide) ?_
    refine lv_icmp_le (tgt := 60) hx hb d_Mod_grow_43 (by decide) (fun hc => ?_) (fun hc => ?_)
    · have h := if_t hc h
      cases h
      exact fx_vret X hP hD hS d_Mod_grow_60
    · have h := if_f hc h
      refine lv_aload_n hx hb d_Mod_grow_46 rfl (lv_at hl 0 rfl) ?_
      refine gM_mod_small X hP d_Mod_grow_47 ?_
      refine lv_iload_n hx hb d_Mod_grow_50 rfl (lv_at hl 1 rfl) ?_
      refine lv_iconst (v := 0) hx hb d_Mod_grow_51 (by decide) ?_
      obtain ⟨g4, e1, h⟩ := bd_some h
      refine sM_5 X hP hD hS e1 d_Mod_grow_52 (fun H locs hP hD hS => ?_)
      refine lv_aload_n hx hb d_Mod_grow_53 rfl (lv_at hl 0 rfl) ?_
      refine lv_iload_n hx hb d_Mod_grow_54 rfl (lv_at hl 1 rfl) ?_
      refine lv_iconst (v := 0) hx hb d_Mod_grow_55 (by decide) ?_
      obtain ⟨p5, e1, h⟩ := bd_some h
      refine fx_i X (fx_runV (As := [.int y1, .int (0 : Int32)]) X (m_Mod_own e1 _) hP hD kv_Mod_216 ⟨Nat.le_of_ble_eq_true rfl, Nat.le_of_ble_eq_true rfl⟩ 0 rfl rfl rfl hl.1 rfl (Nat.le_of_ble_eq_true rfl) d_Mod_grow_56) hD hS (fun H locs hP hD hS => ?_)
      refine lv_pop hx hb d_Mod_grow_59 rfl ?_
      cases h
      exact fx_vret X hP hD hS d_Mod_grow_60
set_option maxHeartbeats 4000000 in
set_option maxRecDepth 100000 in
theorem m_Mod_grow {l : Launch} {D : va_G} {ad : Nat → Nat} {ca : Nat → ClassId} {FU : Nat} {x1 : Int32} {x2 : Int32} {g : St} {q : St} (h : Mod_grow FU x1 x2 g = some q) : CV l ⟨"FlashFilesModel", "grow", "(II)V"⟩ prog_12_method_44_code 3 3 D (tyM ca) (wM ad ca g) [.ref (ad 0), .int x1, .int x2] (wM ad ca q) := by
  intro sz
  refine Met.fx (Qc := fun A => fxQv D (tyM ca) A (wM ad ca q)) (by decide) (Nat.le_of_ble_eq_true rfl) ?_
  intro p e s m below meth c A ls X hP hD hl
  have hl : lv_has ls 3 [(0, .ref (ad 0)), (1, .int x1), (2, .int x2)] := hl
  have hS : va_S A s.heap s.heap [] := va_S.rf
  have hx := X.1
  have hb := X.2.1
  unfold Mod_grow at h
  refine lv_aload_n hx hb d_Mod_grow_0 rfl (lv_at hl 0 rfl) ?_
  refine gM_mod_size X hP d_Mod_grow_1 ?_
  refine lv_iload_n hx hb d_Mod_grow_4 rfl (lv_at hl 1 rfl) ?_
  refine lv_aload_n hx hb d_Mod_grow_5 rfl (lv_at hl 0 rfl) ?_
  refine gM_mod_size X hP d_Mod_grow_6 ?_
  refine lv_iload_n hx hb d_Mod_grow_9 rfl (lv_at hl 1 rfl) ?_
  obtain ⟨v6, e1, h⟩ := bd_some h
  refine rM_3 X hP e1 d_Mod_grow_10 ?_
  refine lv_iload_n hx hb d_Mod_grow_11 rfl (lv_at hl 2 rfl) ?_
  refine lv_icmp_ge (tgt := 19) hx hb d_Mod_grow_12 (by decide) (fun hc => ?_) (fun hc => ?_)
  · have h := if_t hc h
    refine lv_aload_n hx hb d_Mod_grow_19 rfl (lv_at hl 0 rfl) ?_
    refine gM_mod_size X hP d_Mod_grow_20 ?_
    refine lv_iload_n hx hb d_Mod_grow_23 rfl (lv_at hl 1 rfl) ?_
    obtain ⟨v7, e1, h⟩ := bd_some h
    refine rM_3 X hP e1 d_Mod_grow_24 ?_
    exact v_Mod_grow_25 X  hP hD hS (lv_sub hl [0, 1] rfl) h
  · have h := if_f hc h
    refine lv_iload_n hx hb d_Mod_grow_15 rfl (lv_at hl 2 rfl) ?_
    refine lv_goto (tgt := 25) hx hb d_Mod_grow_16 (by decide) ?_
    exact v_Mod_grow_25 X  hP hD hS (lv_sub hl [0, 1] rfl) h
theorem d_Mod_write_0 : decode prog_12_method_45_code 0 = .ok (.aload_n 0, 1) := by decide +kernel
theorem d_Mod_write_1 : decode prog_12_method_45_code 1 = .ok (.invokevirtual 169, 3) := by decide +kernel
theorem d_Mod_write_4 : decode prog_12_method_45_code 4 = .ok (.ifCond .eq 5, 3) := by decide +kernel
theorem d_Mod_write_7 : decode prog_12_method_45_code 7 = .ok (.iconst 0, 1) := by decide +kernel
theorem d_Mod_write_8 : decode prog_12_method_45_code 8 = .ok (.ireturn, 1) := by decide +kernel
theorem d_Mod_write_9 : decode prog_12_method_45_code 9 = .ok (.aload_n 0, 1) := by decide +kernel
theorem d_Mod_write_10 : decode prog_12_method_45_code 10 = .ok (.iload_n 1, 1) := by decide +kernel
theorem d_Mod_write_11 : decode prog_12_method_45_code 11 = .ok (.iconst 1, 1) := by decide +kernel
theorem d_Mod_write_12 : decode prog_12_method_45_code 12 = .ok (.invokevirtual 172, 3) := by decide +kernel
theorem d_Mod_write_15 : decode prog_12_method_45_code 15 = .ok (.ifCond .eq 34, 3) := by decide +kernel
theorem d_Mod_write_18 : decode prog_12_method_45_code 18 = .ok (.iload_n 3, 1) := by decide +kernel
theorem d_Mod_write_19 : decode prog_12_method_45_code 19 = .ok (.iconst 1, 1) := by decide +kernel
theorem d_Mod_write_20 : decode prog_12_method_45_code 20 = .ok (.sipush 2000, 3) := by decide +kernel
theorem d_Mod_write_23 : decode prog_12_method_45_code 23 = .ok (.invokestatic 144, 3) := by decide +kernel
theorem d_Mod_write_26 : decode prog_12_method_45_code 26 = .ok (.ifCond .eq 23, 3) := by decide +kernel
theorem d_Mod_write_29 : decode prog_12_method_45_code 29 = .ok (.iload_n 3, 1) := by decide +kernel
theorem d_Mod_write_30 : decode prog_12_method_45_code 30 = .ok (.aload_n 0, 1) := by decide +kernel
theorem d_Mod_write_31 : decode prog_12_method_45_code 31 = .ok (.getfield 158, 3) := by decide +kernel
theorem d_Mod_write_34 : decode prog_12_method_45_code 34 = .ok (.if_icmp .gt 15, 3) := by decide +kernel
theorem d_Mod_write_37 : decode prog_12_method_45_code 37 = .ok (.iload_n 2, 1) := by decide +kernel
theorem d_Mod_write_38 : decode prog_12_method_45_code 38 = .ok (.ifCond .lt 11, 3) := by decide +kernel
theorem d_Mod_write_41 : decode prog_12_method_45_code 41 = .ok (.iload_n 2, 1) := by decide +kernel
theorem d_Mod_write_42 : decode prog_12_method_45_code 42 = .ok (.ldc 220, 2) := by decide +kernel
theorem d_Mod_write_44 : decode prog_12_method_45_code 44 = .ok (.iload_n 3, 1) := by decide +kernel
theorem d_Mod_write_45 : decode prog_12_method_45_code 45 = .ok (.isub, 1) := by decide +kernel
theorem d_Mod_write_46 : decode prog_12_method_45_code 46 = .ok (.if_icmp .le 7, 3) := by decide +kernel
theorem d_Mod_write_49 : decode prog_12_method_45_code 49 = .ok (.iconst 1, 1) := by decide +kernel
theorem d_Mod_write_50 : decode prog_12_method_45_code 50 = .ok (.goto 4, 3) := by decide +kernel
theorem d_Mod_write_53 : decode prog_12_method_45_code 53 = .ok (.iconst 0, 1) := by decide +kernel
theorem d_Mod_write_54 : decode prog_12_method_45_code 54 = .ok (.istore 4, 2) := by decide +kernel
theorem d_Mod_write_56 : decode prog_12_method_45_code 56 = .ok (.aload_n 0, 1) := by decide +kernel
theorem d_Mod_write_57 : decode prog_12_method_45_code 57 = .ok (.invokevirtual 185, 3) := by decide +kernel
theorem d_Mod_write_60 : decode prog_12_method_45_code 60 = .ok (.aload_n 0, 1) := by decide +kernel
theorem d_Mod_write_61 : decode prog_12_method_45_code 61 = .ok (.iload 4, 2) := by decide +kernel
theorem d_Mod_write_63 : decode prog_12_method_45_code 63 = .ok (.iconst 0, 1) := by decide +kernel
theorem d_Mod_write_64 : decode prog_12_method_45_code 64 = .ok (.invokevirtual 148, 3) := by decide +kernel
theorem d_Mod_write_67 : decode prog_12_method_45_code 67 = .ok (.ifCond .ne 28, 3) := by decide +kernel
theorem d_Mod_write_70 : decode prog_12_method_45_code 70 = .ok (.aload_n 0, 1) := by decide +kernel
theorem d_Mod_write_71 : decode prog_12_method_45_code 71 = .ok (.iload_n 2, 1) := by decide +kernel
theorem d_Mod_write_72 : decode prog_12_method_45_code 72 = .ok (.iload_n 3, 1) := by decide +kernel
theorem d_Mod_write_73 : decode prog_12_method_45_code 73 = .ok (.iadd, 1) := by decide +kernel
theorem d_Mod_write_74 : decode prog_12_method_45_code 74 = .ok (.iconst 1, 1) := by decide +kernel
theorem d_Mod_write_75 : decode prog_12_method_45_code 75 = .ok (.isub, 1) := by decide +kernel
theorem d_Mod_write_76 : decode prog_12_method_45_code 76 = .ok (.sipush 256, 3) := by decide +kernel
theorem d_Mod_write_79 : decode prog_12_method_45_code 79 = .ok (.idiv, 1) := by decide +kernel
theorem d_Mod_write_80 : decode prog_12_method_45_code 80 = .ok (.iload_n 2, 1) := by decide +kernel
theorem d_Mod_write_81 : decode prog_12_method_45_code 81 = .ok (.sipush 256, 3) := by decide +kernel
theorem d_Mod_write_84 : decode prog_12_method_45_code 84 = .ok (.idiv, 1) := by decide +kernel
theorem d_Mod_write_85 : decode prog_12_method_45_code 85 = .ok (.isub, 1) := by decide +kernel
theorem d_Mod_write_86 : decode prog_12_method_45_code 86 = .ok (.bipush 7, 2) := by decide +kernel
theorem d_Mod_write_88 : decode prog_12_method_45_code 88 = .ok (.iadd, 1) := by decide +kernel
theorem d_Mod_write_89 : decode prog_12_method_45_code 89 = .ok (.invokevirtual 188, 3) := by decide +kernel
theorem d_Mod_write_92 : decode prog_12_method_45_code 92 = .ok (.ifCond .eq 5, 3) := by decide +kernel
theorem d_Mod_write_95 : decode prog_12_method_45_code 95 = .ok (.iconst 0, 1) := by decide +kernel
theorem d_Mod_write_96 : decode prog_12_method_45_code 96 = .ok (.ireturn, 1) := by decide +kernel
theorem d_Mod_write_97 : decode prog_12_method_45_code 97 = .ok (.aload_n 0, 1) := by decide +kernel
theorem d_Mod_write_98 : decode prog_12_method_45_code 98 = .ok (.iload_n 1, 1) := by decide +kernel
theorem d_Mod_write_99 : decode prog_12_method_45_code 99 = .ok (.iload_n 2, 1) := by decide +kernel
theorem d_Mod_write_100 : decode prog_12_method_45_code 100 = .ok (.iload_n 3, 1) := by decide +kernel
theorem d_Mod_write_101 : decode prog_12_method_45_code 101 = .ok (.iadd, 1) := by decide +kernel
theorem d_Mod_write_102 : decode prog_12_method_45_code 102 = .ok (.invokevirtual 221, 3) := by decide +kernel
theorem d_Mod_write_105 : decode prog_12_method_45_code 105 = .ok (.iconst 0, 1) := by decide +kernel
theorem d_Mod_write_106 : decode prog_12_method_45_code 106 = .ok (.istore 5, 2) := by decide +kernel
theorem d_Mod_write_108 : decode prog_12_method_45_code 108 = .ok (.iload 5, 2) := by decide +kernel
theorem d_Mod_write_110 : decode prog_12_method_45_code 110 = .ok (.iload_n 3, 1) := by decide +kernel
theorem d_Mod_write_111 : decode prog_12_method_45_code 111 = .ok (.if_icmp .ge 51, 3) := by decide +kernel
theorem d_Mod_write_114 : decode prog_12_method_45_code 114 = .ok (.aload_n 0, 1) := by decide +kernel
theorem d_Mod_write_115 : decode prog_12_method_45_code 115 = .ok (.iload_n 1, 1) := by decide +kernel
theorem d_Mod_write_116 : decode prog_12_method_45_code 116 = .ok (.iload_n 2, 1) := by decide +kernel
theorem d_Mod_write_117 : decode prog_12_method_45_code 117 = .ok (.iload 5, 2) := by decide +kernel
theorem d_Mod_write_119 : decode prog_12_method_45_code 119 = .ok (.iadd, 1) := by decide +kernel
theorem d_Mod_write_120 : decode prog_12_method_45_code 120 = .ok (.sipush 256, 3) := by decide +kernel
theorem d_Mod_write_123 : decode prog_12_method_45_code 123 = .ok (.idiv, 1) := by decide +kernel
theorem d_Mod_write_124 : decode prog_12_method_45_code 124 = .ok (.invokevirtual 216, 3) := by decide +kernel
theorem d_Mod_write_127 : decode prog_12_method_45_code 127 = .ok (.istore 6, 2) := by decide +kernel
theorem d_Mod_write_129 : decode prog_12_method_45_code 129 = .ok (.aload_n 0, 1) := by decide +kernel
theorem d_Mod_write_130 : decode prog_12_method_45_code 130 = .ok (.getfield 45, 3) := by decide +kernel
theorem d_Mod_write_133 : decode prog_12_method_45_code 133 = .ok (.sipush 256, 3) := by decide +kernel
theorem d_Mod_write_136 : decode prog_12_method_45_code 136 = .ok (.iload 6, 2) := by decide +kernel
theorem d_Mod_write_138 : decode prog_12_method_45_code 138 = .ok (.imul, 1) := by decide +kernel
theorem d_Mod_write_139 : decode prog_12_method_45_code 139 = .ok (.iload_n 2, 1) := by decide +kernel
theorem d_Mod_write_140 : decode prog_12_method_45_code 140 = .ok (.iload 5, 2) := by decide +kernel
theorem d_Mod_write_142 : decode prog_12_method_45_code 142 = .ok (.iadd, 1) := by decide +kernel
theorem d_Mod_write_143 : decode prog_12_method_45_code 143 = .ok (.sipush 256, 3) := by decide +kernel
theorem d_Mod_write_146 : decode prog_12_method_45_code 146 = .ok (.irem, 1) := by decide +kernel
theorem d_Mod_write_147 : decode prog_12_method_45_code 147 = .ok (.iadd, 1) := by decide +kernel
theorem d_Mod_write_148 : decode prog_12_method_45_code 148 = .ok (.aload_n 0, 1) := by decide +kernel
theorem d_Mod_write_149 : decode prog_12_method_45_code 149 = .ok (.getfield 13, 3) := by decide +kernel
theorem d_Mod_write_152 : decode prog_12_method_45_code 152 = .ok (.iload 5, 2) := by decide +kernel
theorem d_Mod_write_154 : decode prog_12_method_45_code 154 = .ok (.baload, 1) := by decide +kernel
theorem d_Mod_write_155 : decode prog_12_method_45_code 155 = .ok (.bastore, 1) := by decide +kernel
theorem d_Mod_write_156 : decode prog_12_method_45_code 156 = .ok (.iinc 5 1, 3) := by decide +kernel
theorem d_Mod_write_159 : decode prog_12_method_45_code 159 = .ok (.goto (-51), 3) := by decide +kernel
theorem d_Mod_write_162 : decode prog_12_method_45_code 162 = .ok (.aload_n 0, 1) := by decide +kernel
theorem d_Mod_write_163 : decode prog_12_method_45_code 163 = .ok (.getfield 24, 3) := by decide +kernel
theorem d_Mod_write_166 : decode prog_12_method_45_code 166 = .ok (.iload_n 1, 1) := by decide +kernel
theorem d_Mod_write_167 : decode prog_12_method_45_code 167 = .ok (.iaload, 1) := by decide +kernel
theorem d_Mod_write_168 : decode prog_12_method_45_code 168 = .ok (.ireturn, 1) := by decide +kernel
set_option maxHeartbeats 4000000 in
set_option maxRecDepth 100000 in
theorem v_Mod_write_108 {p : Program} {l : Launch} {e : Env} {s : State} {m : MethodId} {args : Array Value} {below : List Frame} {meth : Method} {c : Code} {D : va_G} {ad : Nat → Nat} {ca : Nat → ClassId} {A : Nat → Prop} {FU : Nat} {q : Int32 × St} (X : FX p s m meth c prog_12_method_45_code 7 (some .int) "FlashFilesModel" D (tyM ca) A) : ∀ (n : Nat), ∀ (y1 y2 y3 y5 : Int32) (g : St) (H : Heap) (locs : List Loc) (ls : Array Slot), va_P D cls (wM ad ca g) H → va_D A (wM ad ca g) → va_S A s.heap H locs → lv_has ls 7 [(0, .ref (ad 0)), (1, .int y1), (2, .int y2), (3, .int y3), (5, .int y5)] → Mod_write_b108 FU n y1 y2 y3 y5 g = some q → W p l e (rmN 6) s m args below meth c H locs 0 0 (MQ below (fxQi D (tyM ca) A (wM ad ca q.2) q.1) args s 0 0 A) (F0 m 108 ls []) := by
  have hx := X.1
  have hb := X.2.1
  intro n
  induction n with
  | zero =>
    intro y1 y2 y3 y5 g H locs ls hP hD hS hl h
    cases h
  | succ n ih =>
    intro y1 y2 y3 y5 g H locs ls hP hD hS hl h
    have h := h
    rw [Mod_write_b108.eq_2] at h
    refine lv_iload hx hb d_Mod_write_108 (lv_at hl 4 rfl) ?_
    refine lv_iload_n hx hb d_Mod_write_110 rfl (lv_at hl 3 rfl) ?_
    refine lv_icmp_ge (tgt := 162) hx hb d_Mod_write_111 (by decide) (fun hc => ?_) (fun hc => ?_)
    · have h := if_t hc h
      refine lv_aload_n hx hb d_Mod_write_162 rfl (lv_at hl 0 rfl) ?_
      refine gM_mod_size X hP d_Mod_write_163 ?_
      refine lv_iload_n hx hb d_Mod_write_166 rfl (lv_at hl 1 rfl) ?_
      obtain ⟨v1, e1, h⟩ := bd_some h
      refine rM_3 X hP e1 d_Mod_write_167 ?_
      cases h
      exact fx_iret X hP hD hS d_Mod_write_168
    · have h := if_f hc h
      refine lv_aload_n hx hb d_Mod_write_114 rfl (lv_at hl 0 rfl) ?_
      refine lv_iload_n hx hb d_Mod_write_115 rfl (lv_at hl 1 rfl) ?_
      refine lv_iload_n hx hb d_Mod_write_116 rfl (lv_at hl 2 rfl) ?_
      refine lv_iload hx hb d_Mod_write_117 (lv_at hl 4 rfl) ?_
      refine lv_iadd hx hb d_Mod_write_119 ?_
      refine lv_sipush (v := 256) hx hb d_Mod_write_120 (by decide) ?_
      refine lv_idiv hx hb d_Mod_write_123 (by decide) ?_
      obtain ⟨p2, e1, h⟩ := bd_some h
      refine fx_i X (fx_runV (As := [.int y1, .int ((y2 + y5) / (256 : Int32))]) X (m_Mod_own e1 _) hP hD kv_Mod_216 ⟨Nat.le_of_ble_eq_true rfl, Nat.le_of_ble_eq_true rfl⟩ 0 rfl rfl rfl hl.1 rfl (Nat.le_of_ble_eq_true rfl) d_Mod_write_124) hD hS (fun H locs hP hD hS => ?_)
      refine lv_istore hx hb d_Mod_write_127 hl (by decide) rfl (fun ls hl => ?_)
      have hl : lv_has ls 7 [(6, .int p2.1), (0, .ref (ad 0)), (1, .int y1), (2, .int y2), (3, .int y3), (5, .int y5)] := hl
      refine lv_aload_n hx hb d_Mod_write_129 rfl (lv_at hl 1 rfl) ?_
      refine gM_mod_pool X hP d_Mod_write_130 ?_
      refine lv_sipush (v := 256) hx hb d_Mod_write_133 (by decide) ?_
      refine lv_iload hx hb d_Mod_write_136 (lv_at hl 0 rfl) ?_
      refine lv_imul hx hb d_Mod_write_138 ?_
      refine lv_iload_n hx hb d_Mod_write_139 rfl (lv_at hl 3 rfl) ?_
      refine lv_iload hx hb d_Mod_write_140 (lv_at hl 5 rfl) ?_
      refine lv_iadd hx hb d_Mod_write_142 ?_
      refine lv_sipush (v := 256) hx hb d_Mod_write_143 (by decide) ?_
      refine lv_irem hx hb d_Mod_write_146 (by decide) ?_
      refine lv_iadd hx hb d_Mod_write_147 ?_
      refine lv_aload_n hx hb d_Mod_write_148 rfl (lv_at hl 1 rfl) ?_
      refine gM_mod_tape X hP d_Mod_write_149 ?_
      refine lv_iload hx hb d_Mod_write_152 (lv_at hl 5 rfl) ?_
      obtain ⟨v3, e1, h⟩ := bd_some h
      refine rM_0 X hP e1 d_Mod_write_154 ?_
      obtain ⟨g4, e1, h⟩ := bd_some h
      refine sM_9 X hP hD hS e1 d_Mod_write_155 (fun H locs hP hD hS => ?_)
      refine lv_iinc (k := 5) (v := (y5 + (1 : Int32))) hx hb d_Mod_write_156 hl rfl (oi_1 _) (by decide) rfl (fun ls hl => ?_)
      have hl : lv_has ls 7 [(5, .int (y5 + (1 : Int32))), (6, .int p2.1), (0, .ref (ad 0)), (1, .int y1), (2, .int y2), (3, .int y3)] := hl
      refine lv_goto (tgt := 108) hx hb d_Mod_write_159 (by decide) ?_
      exact ih _ _ _ _ _ _ _ _ hP hD hS (lv_sub hl [2, 3, 4, 5, 0] rfl) h
set_option maxHeartbeats 4000000 in
set_option maxRecDepth 100000 in
theorem v_Mod_write_54 {p : Program} {l : Launch} {e : Env} {s : State} {m : MethodId} {args : Array Value} {below : List Frame} {meth : Method} {c : Code} {D : va_G} {ad : Nat → Nat} {ca : Nat → ClassId} {A : Nat → Prop} {FU : Nat} {q : Int32 × St} (X : FX p s m meth c prog_12_method_45_code 7 (some .int) "FlashFilesModel" D (tyM ca) A) {y1 : Int32} {y2 : Int32} {y3 : Int32} {z0 : Int32} {g : St} {H : Heap} {locs : List Loc} {ls : Array Slot} (hP : va_P D cls (wM ad ca g) H) (hD : va_D A (wM ad ca g)) (hS : va_S A s.heap H locs) (hl : lv_has ls 7 [(0, .ref (ad 0)), (1, .int y1), (2, .int y2), (3, .int y3)]) (h : Mod_write_b54 FU y1 y2 y3 z0 g = some q) : W p l e (rmN 6) s m args below meth c H locs 0 0 (MQ below (fxQi D (tyM ca) A (wM ad ca q.2) q.1) args s 0 0 A) (F0 m 54 ls [.int z0]) := by
  have hx := X.1
  have hb := X.2.1
  unfold Mod_write_b54 at h
  refine lv_istore hx hb d_Mod_write_54 hl (by decide) rfl (fun ls hl => ?_)
  have hl : lv_has ls 7 [(4, .int z0), (0, .ref (ad 0)), (1, .int y1), (2, .int y2), (3, .int y3)] := hl
  refine lv_aload_n hx hb d_Mod_write_56 rfl (lv_at hl 1 rfl) ?_
  obtain ⟨p5, e1, h⟩ := bd_some h
  refine fx_v X (fx_runV (As := []) X (m_Mod_done e1 _) hP hD kv_Mod_185 ⟨Nat.le_of_ble_eq_true rfl, Nat.le_of_ble_eq_true rfl⟩ 0 rfl rfl rfl hl.1 rfl (Nat.le_of_ble_eq_true rfl) d_Mod_write_57) hD hS (fun H locs hP hD hS => ?_)
  refine lv_aload_n hx hb d_Mod_write_60 rfl (lv_at hl 1 rfl) ?_
  refine lv_iload hx hb d_Mod_write_61 (lv_at hl 0 rfl) ?_
  refine lv_iconst (v := 0) hx hb d_Mod_write_63 (by decide) ?_
  obtain ⟨p6, e1, h⟩ := bd_some h
  refine fx_i X (fx_runV (As := [.int z0, .int (0 : Int32)]) X (m_Mod_throwing e1 _) hP hD kv_Mod_148 ⟨Nat.le_of_ble_eq_true rfl, Nat.le_of_ble_eq_true rfl⟩ 0 rfl rfl rfl hl.1 rfl (Nat.le_of_ble_eq_true rfl) d_Mod_write_64) hD hS (fun H locs hP hD hS => ?_)
  refine lv_if_ne (tgt := 95) hx hb d_Mod_write_67 (by decide) (fun hc => ?_) (fun hc => ?_)
  · have h := if_f hc h
    refine lv_iconst (v := 0) hx hb d_Mod_write_95 (by decide) ?_
    cases h
    exact fx_iret X hP hD hS d_Mod_write_96
  · have h := if_t hc h
    refine lv_aload_n hx hb d_Mod_write_70 rfl (lv_at hl 1 rfl) ?_
    refine lv_iload_n hx hb d_Mod_write_71 rfl (lv_at hl 3 rfl) ?_
    refine lv_iload_n hx hb d_Mod_write_72 rfl (lv_at hl 4 rfl) ?_
    refine lv_iadd hx hb d_Mod_write_73 ?_
    refine lv_iconst (v := 1) hx hb d_Mod_write_74 (by decide) ?_
    refine lv_isub hx hb d_Mod_write_75 ?_
    refine lv_sipush (v := 256) hx hb d_Mod_write_76 (by decide) ?_
    refine lv_idiv hx hb d_Mod_write_79 (by decide) ?_
    refine lv_iload_n hx hb d_Mod_write_80 rfl (lv_at hl 3 rfl) ?_
    refine lv_sipush (v := 256) hx hb d_Mod_write_81 (by decide) ?_
    refine lv_idiv hx hb d_Mod_write_84 (by decide) ?_
    refine lv_isub hx hb d_Mod_write_85 ?_
    refine lv_bipush (v := 7) hx hb d_Mod_write_86 (by decide) ?_
    refine lv_iadd hx hb d_Mod_write_88 ?_
    obtain ⟨p7, e1, h⟩ := bd_some h
    refine fx_i X (fx_runV (As := [.int (((((y2 + y3) - (1 : Int32)) / (256 : Int32)) - (y2 / (256 : Int32))) + (7 : Int32))]) X (m_Mod_stops e1 _) hP hD kv_Mod_188 ⟨Nat.le_of_ble_eq_true rfl, Nat.le_of_ble_eq_true rfl⟩ 0 rfl rfl rfl hl.1 rfl (Nat.le_of_ble_eq_true rfl) d_Mod_write_89) hD hS (fun H locs hP hD hS => ?_)
    refine lv_if_eq (tgt := 97) hx hb d_Mod_write_92 (by decide) (fun hc => ?_) (fun hc => ?_)
    · have h := if_t hc h
      refine lv_aload_n hx hb d_Mod_write_97 rfl (lv_at hl 1 rfl) ?_
      refine lv_iload_n hx hb d_Mod_write_98 rfl (lv_at hl 2 rfl) ?_
      refine lv_iload_n hx hb d_Mod_write_99 rfl (lv_at hl 3 rfl) ?_
      refine lv_iload_n hx hb d_Mod_write_100 rfl (lv_at hl 4 rfl) ?_
      refine lv_iadd hx hb d_Mod_write_101 ?_
      obtain ⟨p8, e1, h⟩ := bd_some h
      refine fx_v X (fx_runV (As := [.int y1, .int (y2 + y3)]) X (m_Mod_grow e1 _) hP hD kv_Mod_221 ⟨Nat.le_of_ble_eq_true rfl, Nat.le_of_ble_eq_true rfl⟩ 0 rfl rfl rfl hl.1 rfl (Nat.le_of_ble_eq_true rfl) d_Mod_write_102) hD hS (fun H locs hP hD hS => ?_)
      refine lv_iconst (v := 0) hx hb d_Mod_write_105 (by decide) ?_
      refine lv_istore hx hb d_Mod_write_106 hl (by decide) rfl (fun ls hl => ?_)
      have hl : lv_has ls 7 [(5, .int (0 : Int32)), (4, .int z0), (0, .ref (ad 0)), (1, .int y1), (2, .int y2), (3, .int y3)] := hl
      exact v_Mod_write_108 X  _ _ _ _ _ _ _ _ _ hP hD hS (lv_sub hl [2, 3, 4, 5, 0] rfl) h
    · have h := if_f hc h
      refine lv_iconst (v := 0) hx hb d_Mod_write_95 (by decide) ?_
      cases h
      exact fx_iret X hP hD hS d_Mod_write_96
set_option maxHeartbeats 4000000 in
set_option maxRecDepth 100000 in
theorem v_Mod_write_49 {p : Program} {l : Launch} {e : Env} {s : State} {m : MethodId} {args : Array Value} {below : List Frame} {meth : Method} {c : Code} {D : va_G} {ad : Nat → Nat} {ca : Nat → ClassId} {A : Nat → Prop} {FU : Nat} {q : Int32 × St} (X : FX p s m meth c prog_12_method_45_code 7 (some .int) "FlashFilesModel" D (tyM ca) A) {y1 : Int32} {y2 : Int32} {y3 : Int32} {g : St} {H : Heap} {locs : List Loc} {ls : Array Slot} (hP : va_P D cls (wM ad ca g) H) (hD : va_D A (wM ad ca g)) (hS : va_S A s.heap H locs) (hl : lv_has ls 7 [(0, .ref (ad 0)), (1, .int y1), (2, .int y2), (3, .int y3)]) (h : Mod_write_b49 FU y1 y2 y3 g = some q) : W p l e (rmN 6) s m args below meth c H locs 0 0 (MQ below (fxQi D (tyM ca) A (wM ad ca q.2) q.1) args s 0 0 A) (F0 m 49 ls []) := by
  have hx := X.1
  have hb := X.2.1
  unfold Mod_write_b49 at h
  refine lv_iconst (v := 1) hx hb d_Mod_write_49 (by decide) ?_
  refine lv_goto (tgt := 54) hx hb d_Mod_write_50 (by decide) ?_
  exact v_Mod_write_54 X  hP hD hS (lv_sub hl [0, 1, 2, 3] rfl) h
set_option maxHeartbeats 4000000 in
set_option maxRecDepth 100000 in
theorem m_Mod_write {l : Launch} {D : va_G} {ad : Nat → Nat} {ca : Nat → ClassId} {FU : Nat} {x1 : Int32} {x2 : Int32} {x3 : Int32} {g : St} {q : Int32 × St} (h : Mod_write FU x1 x2 x3 g = some q) : CI l ⟨"FlashFilesModel", "write", "(III)I"⟩ prog_12_method_45_code 7 6 (some .int) D (tyM ca) (wM ad ca g) [.ref (ad 0), .int x1, .int x2, .int x3] q.1 (wM ad ca q.2) := by
  intro sz
  refine Met.fx (Qc := fun A => fxQi D (tyM ca) A (wM ad ca q.2) q.1) (by decide) (Nat.le_of_ble_eq_true rfl) ?_
  intro p e s m below meth c A ls X hP hD hl
  have hl : lv_has ls 7 [(0, .ref (ad 0)), (1, .int x1), (2, .int x2), (3, .int x3)] := hl
  have hS : va_S A s.heap s.heap [] := va_S.rf
  have hx := X.1
  have hb := X.2.1
  unfold Mod_write at h
  refine lv_aload_n hx hb d_Mod_write_0 rfl (lv_at hl 0 rfl) ?_
  obtain ⟨p9, e1, h⟩ := bd_some h
  refine fx_i X (fx_runV (As := []) X (m_Mod_isOff e1 _) hP hD kv_Mod_169 ⟨Nat.le_of_ble_eq_true rfl, Nat.le_of_ble_eq_true rfl⟩ 0 rfl rfl rfl hl.1 rfl (Nat.le_of_ble_eq_true rfl) d_Mod_write_1) hD hS (fun H locs hP hD hS => ?_)
  refine lv_if_eq (tgt := 9) hx hb d_Mod_write_4 (by decide) (fun hc => ?_) (fun hc => ?_)
  · have h := if_t hc h
    refine lv_aload_n hx hb d_Mod_write_9 rfl (lv_at hl 0 rfl) ?_
    refine lv_iload_n hx hb d_Mod_write_10 rfl (lv_at hl 1 rfl) ?_
    refine lv_iconst (v := 1) hx hb d_Mod_write_11 (by decide) ?_
    obtain ⟨v10, e1, h⟩ := bd_some h
    refine fx_i X (fx_runV (As := [.int x1, .int (1 : Int32)]) X (m_Mod_is e1 _) hP hD kv_Mod_172 ⟨Nat.le_of_ble_eq_true rfl, Nat.le_of_ble_eq_true rfl⟩ 0 rfl rfl rfl hl.1 rfl (Nat.le_of_ble_eq_true rfl) d_Mod_write_12) hD hS (fun H locs hP hD hS => ?_)
    refine lv_if_eq (tgt := 49) hx hb d_Mod_write_15 (by decide) (fun hc => ?_) (fun hc => ?_)
    · have h := if_t hc h
      exact v_Mod_write_49 X  hP hD hS (lv_sub hl [0, 1, 2, 3] rfl) h
    · have h := if_f hc h
      refine lv_iload_n hx hb d_Mod_write_18 rfl (lv_at hl 3 rfl) ?_
      refine lv_iconst (v := 1) hx hb d_Mod_write_19 (by decide) ?_
      refine lv_sipush (v := 2000) hx hb d_Mod_write_20 (by decide) ?_
      obtain ⟨v11, e1, h⟩ := bd_some h
      refine fx_i X (fx_runS X (m_Mod_in e1 _) (As := [.int x3, .int (1 : Int32), .int (2000 : Int32)]) hP hD ks_Mod_144 ⟨Nat.le_of_ble_eq_true rfl, Nat.le_of_ble_eq_true rfl⟩ rfl hl.1 rfl (Nat.le_of_ble_eq_true rfl) d_Mod_write_23) hD hS (fun H locs hP hD hS => ?_)
      refine lv_if_eq (tgt := 49) hx hb d_Mod_write_26 (by decide) (fun hc => ?_) (fun hc => ?_)
      · have h := if_t hc h
        exact v_Mod_write_49 X  hP hD hS (lv_sub hl [0, 1, 2, 3] rfl) h
      · have h := if_f hc h
        refine lv_iload_n hx hb d_Mod_write_29 rfl (lv_at hl 3 rfl) ?_
        refine lv_aload_n hx hb d_Mod_write_30 rfl (lv_at hl 0 rfl) ?_
        refine gM_mod_taped X hP d_Mod_write_31 ?_
        refine lv_icmp_gt (tgt := 49) hx hb d_Mod_write_34 (by decide) (fun hc => ?_) (fun hc => ?_)
        · have h := if_t hc h
          exact v_Mod_write_49 X  hP hD hS (lv_sub hl [0, 1, 2, 3] rfl) h
        · have h := if_f hc h
          refine lv_iload_n hx hb d_Mod_write_37 rfl (lv_at hl 2 rfl) ?_
          refine lv_if_lt (tgt := 49) hx hb d_Mod_write_38 (by decide) (fun hc => ?_) (fun hc => ?_)
          · have h := if_t hc h
            exact v_Mod_write_49 X  hP hD hS (lv_sub hl [0, 1, 2, 3] rfl) h
          · have h := if_f hc h
            refine lv_iload_n hx hb d_Mod_write_41 rfl (lv_at hl 2 rfl) ?_
            refine lv_ldc (v := 100000) hx hb X.2.2.2.2.2.1 (X.2.2.2.2.2.2.1.use q8_163) d_Mod_write_42 ?_
            refine lv_iload_n hx hb d_Mod_write_44 rfl (lv_at hl 3 rfl) ?_
            refine lv_isub hx hb d_Mod_write_45 ?_
            refine lv_icmp_le (tgt := 53) hx hb d_Mod_write_46 (by decide) (fun hc => ?_) (fun hc => ?_)
            · have h := if_t hc h
              refine lv_iconst (v := 0) hx hb d_Mod_write_53 (by decide) ?_
              exact v_Mod_write_54 X  hP hD hS (lv_sub hl [0, 1, 2, 3] rfl) h
            · have h := if_f hc h
              exact v_Mod_write_49 X  hP hD hS (lv_sub hl [0, 1, 2, 3] rfl) h
  · have h := if_f hc h
    refine lv_iconst (v := 0) hx hb d_Mod_write_7 (by decide) ?_
    cases h
    exact fx_iret X hP hD hS d_Mod_write_8
theorem d_Mod_read_0 : decode prog_12_method_46_code 0 = .ok (.aload_n 0, 1) := by decide +kernel
theorem d_Mod_read_1 : decode prog_12_method_46_code 1 = .ok (.invokevirtual 169, 3) := by decide +kernel
theorem d_Mod_read_4 : decode prog_12_method_46_code 4 = .ok (.ifCond .eq 5, 3) := by decide +kernel
theorem d_Mod_read_7 : decode prog_12_method_46_code 7 = .ok (.iconst 0, 1) := by decide +kernel
theorem d_Mod_read_8 : decode prog_12_method_46_code 8 = .ok (.ireturn, 1) := by decide +kernel
theorem d_Mod_read_9 : decode prog_12_method_46_code 9 = .ok (.aload_n 0, 1) := by decide +kernel
theorem d_Mod_read_10 : decode prog_12_method_46_code 10 = .ok (.aload_n 0, 1) := by decide +kernel
theorem d_Mod_read_11 : decode prog_12_method_46_code 11 = .ok (.iload_n 1, 1) := by decide +kernel
theorem d_Mod_read_12 : decode prog_12_method_46_code 12 = .ok (.iconst 1, 1) := by decide +kernel
theorem d_Mod_read_13 : decode prog_12_method_46_code 13 = .ok (.invokevirtual 172, 3) := by decide +kernel
theorem d_Mod_read_16 : decode prog_12_method_46_code 16 = .ok (.ifCond .eq 18, 3) := by decide +kernel
theorem d_Mod_read_19 : decode prog_12_method_46_code 19 = .ok (.iload_n 3, 1) := by decide +kernel
theorem d_Mod_read_20 : decode prog_12_method_46_code 20 = .ok (.iconst 1, 1) := by decide +kernel
theorem d_Mod_read_21 : decode prog_12_method_46_code 21 = .ok (.sipush 2000, 3) := by decide +kernel
theorem d_Mod_read_24 : decode prog_12_method_46_code 24 = .ok (.invokestatic 144, 3) := by decide +kernel
theorem d_Mod_read_27 : decode prog_12_method_46_code 27 = .ok (.ifCond .eq 7, 3) := by decide +kernel
theorem d_Mod_read_30 : decode prog_12_method_46_code 30 = .ok (.iload_n 2, 1) := by decide +kernel
theorem d_Mod_read_31 : decode prog_12_method_46_code 31 = .ok (.ifCond .ge 7, 3) := by decide +kernel
theorem d_Mod_read_34 : decode prog_12_method_46_code 34 = .ok (.iconst 1, 1) := by decide +kernel
theorem d_Mod_read_35 : decode prog_12_method_46_code 35 = .ok (.goto 4, 3) := by decide +kernel
theorem d_Mod_read_38 : decode prog_12_method_46_code 38 = .ok (.iconst 0, 1) := by decide +kernel
theorem d_Mod_read_39 : decode prog_12_method_46_code 39 = .ok (.iconst 0, 1) := by decide +kernel
theorem d_Mod_read_40 : decode prog_12_method_46_code 40 = .ok (.invokevirtual 148, 3) := by decide +kernel
theorem d_Mod_read_43 : decode prog_12_method_46_code 43 = .ok (.ifCond .eq 5, 3) := by decide +kernel
theorem d_Mod_read_46 : decode prog_12_method_46_code 46 = .ok (.iconst 0, 1) := by decide +kernel
theorem d_Mod_read_47 : decode prog_12_method_46_code 47 = .ok (.ireturn, 1) := by decide +kernel
theorem d_Mod_read_48 : decode prog_12_method_46_code 48 = .ok (.aload_n 0, 1) := by decide +kernel
theorem d_Mod_read_49 : decode prog_12_method_46_code 49 = .ok (.iload_n 2, 1) := by decide +kernel
theorem d_Mod_read_50 : decode prog_12_method_46_code 50 = .ok (.aload_n 0, 1) := by decide +kernel
theorem d_Mod_read_51 : decode prog_12_method_46_code 51 = .ok (.getfield 24, 3) := by decide +kernel
theorem d_Mod_read_54 : decode prog_12_method_46_code 54 = .ok (.iload_n 1, 1) := by decide +kernel
theorem d_Mod_read_55 : decode prog_12_method_46_code 55 = .ok (.iaload, 1) := by decide +kernel
theorem d_Mod_read_56 : decode prog_12_method_46_code 56 = .ok (.if_icmp .lt 7, 3) := by decide +kernel
theorem d_Mod_read_59 : decode prog_12_method_46_code 59 = .ok (.iconst 0, 1) := by decide +kernel
theorem d_Mod_read_60 : decode prog_12_method_46_code 60 = .ok (.goto 27, 3) := by decide +kernel
theorem d_Mod_read_63 : decode prog_12_method_46_code 63 = .ok (.iload_n 3, 1) := by decide +kernel
theorem d_Mod_read_64 : decode prog_12_method_46_code 64 = .ok (.aload_n 0, 1) := by decide +kernel
theorem d_Mod_read_65 : decode prog_12_method_46_code 65 = .ok (.getfield 24, 3) := by decide +kernel
theorem d_Mod_read_68 : decode prog_12_method_46_code 68 = .ok (.iload_n 1, 1) := by decide +kernel
theorem d_Mod_read_69 : decode prog_12_method_46_code 69 = .ok (.iaload, 1) := by decide +kernel
theorem d_Mod_read_70 : decode prog_12_method_46_code 70 = .ok (.iload_n 2, 1) := by decide +kernel
theorem d_Mod_read_71 : decode prog_12_method_46_code 71 = .ok (.isub, 1) := by decide +kernel
theorem d_Mod_read_72 : decode prog_12_method_46_code 72 = .ok (.if_icmp .ge 7, 3) := by decide +kernel
theorem d_Mod_read_75 : decode prog_12_method_46_code 75 = .ok (.iload_n 3, 1) := by decide +kernel
theorem d_Mod_read_76 : decode prog_12_method_46_code 76 = .ok (.goto 11, 3) := by decide +kernel
theorem d_Mod_read_79 : decode prog_12_method_46_code 79 = .ok (.aload_n 0, 1) := by decide +kernel
theorem d_Mod_read_80 : decode prog_12_method_46_code 80 = .ok (.getfield 24, 3) := by decide +kernel
theorem d_Mod_read_83 : decode prog_12_method_46_code 83 = .ok (.iload_n 1, 1) := by decide +kernel
theorem d_Mod_read_84 : decode prog_12_method_46_code 84 = .ok (.iaload, 1) := by decide +kernel
theorem d_Mod_read_85 : decode prog_12_method_46_code 85 = .ok (.iload_n 2, 1) := by decide +kernel
theorem d_Mod_read_86 : decode prog_12_method_46_code 86 = .ok (.isub, 1) := by decide +kernel
theorem d_Mod_read_87 : decode prog_12_method_46_code 87 = .ok (.putfield 210, 3) := by decide +kernel
theorem d_Mod_read_90 : decode prog_12_method_46_code 90 = .ok (.iconst 0, 1) := by decide +kernel
theorem d_Mod_read_91 : decode prog_12_method_46_code 91 = .ok (.istore 4, 2) := by decide +kernel
theorem d_Mod_read_93 : decode prog_12_method_46_code 93 = .ok (.iload 4, 2) := by decide +kernel
theorem d_Mod_read_95 : decode prog_12_method_46_code 95 = .ok (.aload_n 0, 1) := by decide +kernel
theorem d_Mod_read_96 : decode prog_12_method_46_code 96 = .ok (.getfield 210, 3) := by decide +kernel
theorem d_Mod_read_99 : decode prog_12_method_46_code 99 = .ok (.if_icmp .ge 65, 3) := by decide +kernel
theorem d_Mod_read_102 : decode prog_12_method_46_code 102 = .ok (.aload_n 0, 1) := by decide +kernel
theorem d_Mod_read_103 : decode prog_12_method_46_code 103 = .ok (.getfield 41, 3) := by decide +kernel
theorem d_Mod_read_106 : decode prog_12_method_46_code 106 = .ok (.iconst 0, 1) := by decide +kernel
theorem d_Mod_read_107 : decode prog_12_method_46_code 107 = .ok (.iload_n 1, 1) := by decide +kernel
theorem d_Mod_read_108 : decode prog_12_method_46_code 108 = .ok (.iload_n 2, 1) := by decide +kernel
theorem d_Mod_read_109 : decode prog_12_method_46_code 109 = .ok (.iload 4, 2) := by decide +kernel
theorem d_Mod_read_111 : decode prog_12_method_46_code 111 = .ok (.iadd, 1) := by decide +kernel
theorem d_Mod_read_112 : decode prog_12_method_46_code 112 = .ok (.sipush 256, 3) := by decide +kernel
theorem d_Mod_read_115 : decode prog_12_method_46_code 115 = .ok (.idiv, 1) := by decide +kernel
theorem d_Mod_read_116 : decode prog_12_method_46_code 116 = .ok (.invokestatic 82, 3) := by decide +kernel
theorem d_Mod_read_119 : decode prog_12_method_46_code 119 = .ok (.iaload, 1) := by decide +kernel
theorem d_Mod_read_120 : decode prog_12_method_46_code 120 = .ok (.istore 5, 2) := by decide +kernel
theorem d_Mod_read_122 : decode prog_12_method_46_code 122 = .ok (.aload_n 0, 1) := by decide +kernel
theorem d_Mod_read_123 : decode prog_12_method_46_code 123 = .ok (.getfield 17, 3) := by decide +kernel
theorem d_Mod_read_126 : decode prog_12_method_46_code 126 = .ok (.iload 4, 2) := by decide +kernel
theorem d_Mod_read_128 : decode prog_12_method_46_code 128 = .ok (.iload 5, 2) := by decide +kernel
theorem d_Mod_read_130 : decode prog_12_method_46_code 130 = .ok (.ifCond .ge 7, 3) := by decide +kernel
theorem d_Mod_read_133 : decode prog_12_method_46_code 133 = .ok (.iconst 0, 1) := by decide +kernel
theorem d_Mod_read_134 : decode prog_12_method_46_code 134 = .ok (.goto 23, 3) := by decide +kernel
theorem d_Mod_read_137 : decode prog_12_method_46_code 137 = .ok (.aload_n 0, 1) := by decide +kernel
theorem d_Mod_read_138 : decode prog_12_method_46_code 138 = .ok (.getfield 45, 3) := by decide +kernel
theorem d_Mod_read_141 : decode prog_12_method_46_code 141 = .ok (.sipush 256, 3) := by decide +kernel
theorem d_Mod_read_144 : decode prog_12_method_46_code 144 = .ok (.iload 5, 2) := by decide +kernel
theorem d_Mod_read_146 : decode prog_12_method_46_code 146 = .ok (.imul, 1) := by decide +kernel
theorem d_Mod_read_147 : decode prog_12_method_46_code 147 = .ok (.iload_n 2, 1) := by decide +kernel
theorem d_Mod_read_148 : decode prog_12_method_46_code 148 = .ok (.iload 4, 2) := by decide +kernel
theorem d_Mod_read_150 : decode prog_12_method_46_code 150 = .ok (.iadd, 1) := by decide +kernel
theorem d_Mod_read_151 : decode prog_12_method_46_code 151 = .ok (.sipush 256, 3) := by decide +kernel
theorem d_Mod_read_154 : decode prog_12_method_46_code 154 = .ok (.irem, 1) := by decide +kernel
theorem d_Mod_read_155 : decode prog_12_method_46_code 155 = .ok (.iadd, 1) := by decide +kernel
theorem d_Mod_read_156 : decode prog_12_method_46_code 156 = .ok (.baload, 1) := by decide +kernel
theorem d_Mod_read_157 : decode prog_12_method_46_code 157 = .ok (.bastore, 1) := by decide +kernel
theorem d_Mod_read_158 : decode prog_12_method_46_code 158 = .ok (.iinc 4 1, 3) := by decide +kernel
theorem d_Mod_read_161 : decode prog_12_method_46_code 161 = .ok (.goto (-68), 3) := by decide +kernel
theorem d_Mod_read_164 : decode prog_12_method_46_code 164 = .ok (.aload_n 0, 1) := by decide +kernel
theorem d_Mod_read_165 : decode prog_12_method_46_code 165 = .ok (.getfield 210, 3) := by decide +kernel
theorem d_Mod_read_168 : decode prog_12_method_46_code 168 = .ok (.ireturn, 1) := by decide +kernel
set_option maxHeartbeats 4000000 in
set_option maxRecDepth 100000 in
theorem v_Mod_read_157 {p : Program} {l : Launch} {e : Env} {s : State} {m : MethodId} {args : Array Value} {below : List Frame} {meth : Method} {c : Code} {D : va_G} {ad : Nat → Nat} {ca : Nat → ClassId} {A : Nat → Prop} {FU : Nat} {q : Int32 × St} (X : FX p s m meth c prog_12_method_46_code 6 (some .int) "FlashFilesModel" D (tyM ca) A) {k93 : Int32 → Int32 → Int32 → St → Option (Int32 × St)} (hk93 : ∀ (y1 y2 y4 : Int32) (g : St) (H : Heap) (locs : List Loc) (ls : Array Slot), va_P D cls (wM ad ca g) H → va_D A (wM ad ca g) → va_S A s.heap H locs → lv_has ls 6 [(0, .ref (ad 0)), (1, .int y1), (2, .int y2), (4, .int y4)] → k93 y1 y2 y4 g = some q → W p l e (rmN 4) s m args below meth c H locs 0 0 (MQ below (fxQi D (tyM ca) A (wM ad ca q.2) q.1) args s 0 0 A) (F0 m 93 ls [])) {y1 : Int32} {y2 : Int32} {y4 : Int32} {z0 : Int32} {z1 : Int32} {g : St} {H : Heap} {locs : List Loc} {ls : Array Slot} (hP : va_P D cls (wM ad ca g) H) (hD : va_D A (wM ad ca g)) (hS : va_S A s.heap H locs) (hl : lv_has ls 6 [(0, .ref (ad 0)), (1, .int y1), (2, .int y2), (4, .int y4)]) (h : Mod_read_b157 FU k93 y1 y2 y4 z0 z1 g = some q) : W p l e (rmN 4) s m args below meth c H locs 0 0 (MQ below (fxQi D (tyM ca) A (wM ad ca q.2) q.1) args s 0 0 A) (F0 m 157 ls [.int z0, .int z1, .ref (ad 2)]) := by
  have hx := X.1
  have hb := X.2.1
  unfold Mod_read_b157 at h
  obtain ⟨g1, e1, h⟩ := bd_some h
  refine sM_1 X hP hD hS e1 d_Mod_read_157 (fun H locs hP hD hS => ?_)
  refine lv_iinc (k := 3) (v := (y4 + (1 : Int32))) hx hb d_Mod_read_158 hl rfl (oi_1 _) (by decide) rfl (fun ls hl => ?_)
  have hl : lv_has ls 6 [(4, .int (y4 + (1 : Int32))), (0, .ref (ad 0)), (1, .int y1), (2, .int y2)] := hl
  refine lv_goto (tgt := 93) hx hb d_Mod_read_161 (by decide) ?_
  exact hk93 _ _ _ _ _ _ _ hP hD hS (lv_sub hl [1, 2, 3, 0] rfl) h
set_option maxHeartbeats 4000000 in
set_option maxRecDepth 100000 in
theorem v_Mod_read_93 {p : Program} {l : Launch} {e : Env} {s : State} {m : MethodId} {args : Array Value} {below : List Frame} {meth : Method} {c : Code} {D : va_G} {ad : Nat → Nat} {ca : Nat → ClassId} {A : Nat → Prop} {FU : Nat} {q : Int32 × St} (X : FX p s m meth c prog_12_method_46_code 6 (some .int) "FlashFilesModel" D (tyM ca) A) : ∀ (n : Nat), ∀ (y1 y2 y4 : Int32) (g : St) (H : Heap) (locs : List Loc) (ls : Array Slot), va_P D cls (wM ad ca g) H → va_D A (wM ad ca g) → va_S A s.heap H locs → lv_has ls 6 [(0, .ref (ad 0)), (1, .int y1), (2, .int y2), (4, .int y4)] → Mod_read_b93 FU n y1 y2 y4 g = some q → W p l e (rmN 4) s m args below meth c H locs 0 0 (MQ below (fxQi D (tyM ca) A (wM ad ca q.2) q.1) args s 0 0 A) (F0 m 93 ls []) := by
  have hx := X.1
  have hb := X.2.1
  intro n
  induction n with
  | zero =>
    intro y1 y2 y4 g H locs ls hP hD hS hl h
    cases h
  | succ n ih =>
    intro y1 y2 y4 g H locs ls hP hD hS hl h
    have h := h
    rw [Mod_read_b93.eq_2] at h
    refine lv_iload hx hb d_Mod_read_93 (lv_at hl 3 rfl) ?_
    refine lv_aload_n hx hb d_Mod_read_95 rfl (lv_at hl 0 rfl) ?_
    refine gM_mod_toldSize X hP d_Mod_read_96 ?_
    refine lv_icmp_ge (tgt := 164) hx hb d_Mod_read_99 (by decide) (fun hc => ?_) (fun hc => ?_)
    · have h := if_t hc h
      refine lv_aload_n hx hb d_Mod_read_164 rfl (lv_at hl 0 rfl) ?_
      refine gM_mod_toldSize X hP d_Mod_read_165 ?_
      cases h
      exact fx_iret X hP hD hS d_Mod_read_168
    · have h := if_f hc h
      refine lv_aload_n hx hb d_Mod_read_102 rfl (lv_at hl 0 rfl) ?_
      refine gM_mod_piece X hP d_Mod_read_103 ?_
      refine lv_iconst (v := 0) hx hb d_Mod_read_106 (by decide) ?_
      refine lv_iload_n hx hb d_Mod_read_107 rfl (lv_at hl 1 rfl) ?_
      refine lv_iload_n hx hb d_Mod_read_108 rfl (lv_at hl 2 rfl) ?_
      refine lv_iload hx hb d_Mod_read_109 (lv_at hl 3 rfl) ?_
      refine lv_iadd hx hb d_Mod_read_111 ?_
      refine lv_sipush (v := 256) hx hb d_Mod_read_112 (by decide) ?_
      refine lv_idiv hx hb d_Mod_read_115 (by decide) ?_
      obtain ⟨v2, e1, h⟩ := bd_some h
      refine fx_i X (fx_runS X (m_Mod_at e1 _) (As := [.int (0 : Int32), .int y1, .int ((y2 + y4) / (256 : Int32))]) hP hD ks_Mod_82 ⟨Nat.le_of_ble_eq_true rfl, Nat.le_of_ble_eq_true rfl⟩ rfl hl.1 rfl (Nat.le_of_ble_eq_true rfl) d_Mod_read_116) hD hS (fun H locs hP hD hS => ?_)
      obtain ⟨v3, e1, h⟩ := bd_some h
      refine rM_8 X hP e1 d_Mod_read_119 ?_
      refine lv_istore hx hb d_Mod_read_120 hl (by decide) rfl (fun ls hl => ?_)
      have hl : lv_has ls 6 [(5, .int v3), (0, .ref (ad 0)), (1, .int y1), (2, .int y2), (4, .int y4)] := hl
      refine lv_aload_n hx hb d_Mod_read_122 rfl (lv_at hl 1 rfl) ?_
      refine gM_mod_told X hP d_Mod_read_123 ?_
      refine lv_iload hx hb d_Mod_read_126 (lv_at hl 4 rfl) ?_
      refine lv_iload hx hb d_Mod_read_128 (lv_at hl 0 rfl) ?_
      refine lv_if_ge (tgt := 137) hx hb d_Mod_read_130 (by decide) (fun hc => ?_) (fun hc => ?_)
      · have h := if_t hc h
        refine lv_aload_n hx hb d_Mod_read_137 rfl (lv_at hl 1 rfl) ?_
        refine gM_mod_pool X hP d_Mod_read_138 ?_
        refine lv_sipush (v := 256) hx hb d_Mod_read_141 (by decide) ?_
        refine lv_iload hx hb d_Mod_read_144 (lv_at hl 0 rfl) ?_
        refine lv_imul hx hb d_Mod_read_146 ?_
        refine lv_iload_n hx hb d_Mod_read_147 rfl (lv_at hl 3 rfl) ?_
        refine lv_iload hx hb d_Mod_read_148 (lv_at hl 4 rfl) ?_
        refine lv_iadd hx hb d_Mod_read_150 ?_
        refine lv_sipush (v := 256) hx hb d_Mod_read_151 (by decide) ?_
        refine lv_irem hx hb d_Mod_read_154 (by decide) ?_
        refine lv_iadd hx hb d_Mod_read_155 ?_
        obtain ⟨v4, e1, h⟩ := bd_some h
        refine rM_9 X hP e1 d_Mod_read_156 ?_
        exact v_Mod_read_157 X ih hP hD hS (lv_sub hl [1, 2, 3, 4] rfl) h
      · have h := if_f hc h
        refine lv_iconst (v := 0) hx hb d_Mod_read_133 (by decide) ?_
        refine lv_goto (tgt := 157) hx hb d_Mod_read_134 (by decide) ?_
        exact v_Mod_read_157 X ih hP hD hS (lv_sub hl [1, 2, 3, 4] rfl) h
set_option maxHeartbeats 4000000 in
set_option maxRecDepth 100000 in
theorem v_Mod_read_87 {p : Program} {l : Launch} {e : Env} {s : State} {m : MethodId} {args : Array Value} {below : List Frame} {meth : Method} {c : Code} {D : va_G} {ad : Nat → Nat} {ca : Nat → ClassId} {A : Nat → Prop} {FU : Nat} {q : Int32 × St} (X : FX p s m meth c prog_12_method_46_code 6 (some .int) "FlashFilesModel" D (tyM ca) A) {y1 : Int32} {y2 : Int32} {z0 : Int32} {g : St} {H : Heap} {locs : List Loc} {ls : Array Slot} (hP : va_P D cls (wM ad ca g) H) (hD : va_D A (wM ad ca g)) (hS : va_S A s.heap H locs) (hl : lv_has ls 6 [(0, .ref (ad 0)), (1, .int y1), (2, .int y2)]) (h : Mod_read_b87 FU y1 y2 z0 g = some q) : W p l e (rmN 4) s m args below meth c H locs 0 0 (MQ below (fxQi D (tyM ca) A (wM ad ca q.2) q.1) args s 0 0 A) (F0 m 87 ls [.int z0, .ref (ad 0)]) := by
  have hx := X.1
  have hb := X.2.1
  unfold Mod_read_b87 at h
  obtain ⟨g5, e1, h⟩ := nx_some h
  refine uM_mod_toldSize X hP hD hS e1 d_Mod_read_87 (fun H locs hP hD hS => ?_)
  refine lv_iconst (v := 0) hx hb d_Mod_read_90 (by decide) ?_
  refine lv_istore hx hb d_Mod_read_91 hl (by decide) rfl (fun ls hl => ?_)
  have hl : lv_has ls 6 [(4, .int (0 : Int32)), (0, .ref (ad 0)), (1, .int y1), (2, .int y2)] := hl
  exact v_Mod_read_93 X  _ _ _ _ _ _ _ _ hP hD hS (lv_sub hl [1, 2, 3, 0] rfl) h
set_option maxHeartbeats 4000000 in
set_option maxRecDepth 100000 in
theorem v_Mod_read_39 {p : Program} {l : Launch} {e : Env} {s : State} {m : MethodId} {args : Array Value} {below : List Frame} {meth : Method} {c : Code} {D : va_G} {ad : Nat → Nat} {ca : Nat → ClassId} {A : Nat → Prop} {FU : Nat} {q : Int32 × St} (X : FX p s m meth c prog_12_method_46_code 6 (some .int) "FlashFilesModel" D (tyM ca) A) {y1 : Int32} {y2 : Int32} {y3 : Int32} {z0 : Int32} {g : St} {H : Heap} {locs : List Loc} {ls : Array Slot} (hP : va_P D cls (wM ad ca g) H) (hD : va_D A (wM ad ca g)) (hS : va_S A s.heap H locs) (hl : lv_has ls 6 [(0, .ref (ad 0)), (1, .int y1), (2, .int y2), (3, .int y3)]) (h : Mod_read_b39 FU y1 y2 y3 z0 g = some q) : W p l e (rmN 4) s m args below meth c H locs 0 0 (MQ below (fxQi D (tyM ca) A (wM ad ca q.2) q.1) args s 0 0 A) (F0 m 39 ls [.int z0, .ref (ad 0)]) := by
  have hx := X.1
  have hb := X.2.1
  unfold Mod_read_b39 at h
  refine lv_iconst (v := 0) hx hb d_Mod_read_39 (by decide) ?_
  obtain ⟨p6, e1, h⟩ := bd_some h
  refine fx_i X (fx_runV (As := [.int z0, .int (0 : Int32)]) X (m_Mod_throwing e1 _) hP hD kv_Mod_148 ⟨Nat.le_of_ble_eq_true rfl, Nat.le_of_ble_eq_true rfl⟩ 0 rfl rfl rfl hl.1 rfl (Nat.le_of_ble_eq_true rfl) d_Mod_read_40) hD hS (fun H locs hP hD hS => ?_)
  refine lv_if_eq (tgt := 48) hx hb d_Mod_read_43 (by decide) (fun hc => ?_) (fun hc => ?_)
  · have h := if_t hc h
    refine lv_aload_n hx hb d_Mod_read_48 rfl (lv_at hl 0 rfl) ?_
    refine lv_iload_n hx hb d_Mod_read_49 rfl (lv_at hl 2 rfl) ?_
    refine lv_aload_n hx hb d_Mod_read_50 rfl (lv_at hl 0 rfl) ?_
    refine gM_mod_size X hP d_Mod_read_51 ?_
    refine lv_iload_n hx hb d_Mod_read_54 rfl (lv_at hl 1 rfl) ?_
    obtain ⟨v7, e1, h⟩ := bd_some h
    refine rM_3 X hP e1 d_Mod_read_55 ?_
    refine lv_icmp_lt (tgt := 63) hx hb d_Mod_read_56 (by decide) (fun hc => ?_) (fun hc => ?_)
    · have h := if_t hc h
      refine lv_iload_n hx hb d_Mod_read_63 rfl (lv_at hl 3 rfl) ?_
      refine lv_aload_n hx hb d_Mod_read_64 rfl (lv_at hl 0 rfl) ?_
      refine gM_mod_size X hP d_Mod_read_65 ?_
      refine lv_iload_n hx hb d_Mod_read_68 rfl (lv_at hl 1 rfl) ?_
      obtain ⟨v8, e1, h⟩ := bd_some h
      refine rM_3 X hP e1 d_Mod_read_69 ?_
      refine lv_iload_n hx hb d_Mod_read_70 rfl (lv_at hl 2 rfl) ?_
      refine lv_isub hx hb d_Mod_read_71 ?_
      refine lv_icmp_ge (tgt := 79) hx hb d_Mod_read_72 (by decide) (fun hc => ?_) (fun hc => ?_)
      · have h := if_t hc h
        refine lv_aload_n hx hb d_Mod_read_79 rfl (lv_at hl 0 rfl) ?_
        refine gM_mod_size X hP d_Mod_read_80 ?_
        refine lv_iload_n hx hb d_Mod_read_83 rfl (lv_at hl 1 rfl) ?_
        obtain ⟨v9, e1, h⟩ := bd_some h
        refine rM_3 X hP e1 d_Mod_read_84 ?_
        refine lv_iload_n hx hb d_Mod_read_85 rfl (lv_at hl 2 rfl) ?_
        refine lv_isub hx hb d_Mod_read_86 ?_
        exact v_Mod_read_87 X  hP hD hS (lv_sub hl [0, 1, 2] rfl) h
      · have h := if_f hc h
        refine lv_iload_n hx hb d_Mod_read_75 rfl (lv_at hl 3 rfl) ?_
        refine lv_goto (tgt := 87) hx hb d_Mod_read_76 (by decide) ?_
        exact v_Mod_read_87 X  hP hD hS (lv_sub hl [0, 1, 2] rfl) h
    · have h := if_f hc h
      refine lv_iconst (v := 0) hx hb d_Mod_read_59 (by decide) ?_
      refine lv_goto (tgt := 87) hx hb d_Mod_read_60 (by decide) ?_
      exact v_Mod_read_87 X  hP hD hS (lv_sub hl [0, 1, 2] rfl) h
  · have h := if_f hc h
    refine lv_iconst (v := 0) hx hb d_Mod_read_46 (by decide) ?_
    cases h
    exact fx_iret X hP hD hS d_Mod_read_47
set_option maxHeartbeats 4000000 in
set_option maxRecDepth 100000 in
theorem v_Mod_read_34 {p : Program} {l : Launch} {e : Env} {s : State} {m : MethodId} {args : Array Value} {below : List Frame} {meth : Method} {c : Code} {D : va_G} {ad : Nat → Nat} {ca : Nat → ClassId} {A : Nat → Prop} {FU : Nat} {q : Int32 × St} (X : FX p s m meth c prog_12_method_46_code 6 (some .int) "FlashFilesModel" D (tyM ca) A) {y1 : Int32} {y2 : Int32} {y3 : Int32} {g : St} {H : Heap} {locs : List Loc} {ls : Array Slot} (hP : va_P D cls (wM ad ca g) H) (hD : va_D A (wM ad ca g)) (hS : va_S A s.heap H locs) (hl : lv_has ls 6 [(0, .ref (ad 0)), (1, .int y1), (2, .int y2), (3, .int y3)]) (h : Mod_read_b34 FU y1 y2 y3 g = some q) : W p l e (rmN 4) s m args below meth c H locs 0 0 (MQ below (fxQi D (tyM ca) A (wM ad ca q.2) q.1) args s 0 0 A) (F0 m 34 ls [.ref (ad 0)]) := by
  have hx := X.1
  have hb := X.2.1
  unfold Mod_read_b34 at h
  refine lv_iconst (v := 1) hx hb d_Mod_read_34 (by decide) ?_
  refine lv_goto (tgt := 39) hx hb d_Mod_read_35 (by decide) ?_
  exact v_Mod_read_39 X  hP hD hS (lv_sub hl [0, 1, 2, 3] rfl) h
set_option maxHeartbeats 4000000 in
set_option maxRecDepth 100000 in
theorem m_Mod_read {l : Launch} {D : va_G} {ad : Nat → Nat} {ca : Nat → ClassId} {FU : Nat} {x1 : Int32} {x2 : Int32} {x3 : Int32} {g : St} {q : Int32 × St} (h : Mod_read FU x1 x2 x3 g = some q) : CI l ⟨"FlashFilesModel", "read", "(III)I"⟩ prog_12_method_46_code 6 4 (some .int) D (tyM ca) (wM ad ca g) [.ref (ad 0), .int x1, .int x2, .int x3] q.1 (wM ad ca q.2) := by
  intro sz
  refine Met.fx (Qc := fun A => fxQi D (tyM ca) A (wM ad ca q.2) q.1) (by decide) (Nat.le_of_ble_eq_true rfl) ?_
  intro p e s m below meth c A ls X hP hD hl
  have hl : lv_has ls 6 [(0, .ref (ad 0)), (1, .int x1), (2, .int x2), (3, .int x3)] := hl
  have hS : va_S A s.heap s.heap [] := va_S.rf
  have hx := X.1
  have hb := X.2.1
  unfold Mod_read at h
  refine lv_aload_n hx hb d_Mod_read_0 rfl (lv_at hl 0 rfl) ?_
  obtain ⟨p10, e1, h⟩ := bd_some h
  refine fx_i X (fx_runV (As := []) X (m_Mod_isOff e1 _) hP hD kv_Mod_169 ⟨Nat.le_of_ble_eq_true rfl, Nat.le_of_ble_eq_true rfl⟩ 0 rfl rfl rfl hl.1 rfl (Nat.le_of_ble_eq_true rfl) d_Mod_read_1) hD hS (fun H locs hP hD hS => ?_)
  refine lv_if_eq (tgt := 9) hx hb d_Mod_read_4 (by decide) (fun hc => ?_) (fun hc => ?_)
  · have h := if_t hc h
    refine lv_aload_n hx hb d_Mod_read_9 rfl (lv_at hl 0 rfl) ?_
    refine lv_aload_n hx hb d_Mod_read_10 rfl (lv_at hl 0 rfl) ?_
    refine lv_iload_n hx hb d_Mod_read_11 rfl (lv_at hl 1 rfl) ?_
    refine lv_iconst (v := 1) hx hb d_Mod_read_12 (by decide) ?_
    obtain ⟨v11, e1, h⟩ := bd_some h
    refine fx_i X (fx_runV (As := [.int x1, .int (1 : Int32)]) X (m_Mod_is e1 _) hP hD kv_Mod_172 ⟨Nat.le_of_ble_eq_true rfl, Nat.le_of_ble_eq_true rfl⟩ 0 rfl rfl rfl hl.1 rfl (Nat.le_of_ble_eq_true rfl) d_Mod_read_13) hD hS (fun H locs hP hD hS => ?_)
    refine lv_if_eq (tgt := 34) hx hb d_Mod_read_16 (by decide) (fun hc => ?_) (fun hc => ?_)
    · have h := if_t hc h
      exact v_Mod_read_34 X  hP hD hS (lv_sub hl [0, 1, 2, 3] rfl) h
    · have h := if_f hc h
      refine lv_iload_n hx hb d_Mod_read_19 rfl (lv_at hl 3 rfl) ?_
      refine lv_iconst (v := 1) hx hb d_Mod_read_20 (by decide) ?_
      refine lv_sipush (v := 2000) hx hb d_Mod_read_21 (by decide) ?_
      obtain ⟨v12, e1, h⟩ := bd_some h
      refine fx_i X (fx_runS X (m_Mod_in e1 _) (As := [.int x3, .int (1 : Int32), .int (2000 : Int32)]) hP hD ks_Mod_144 ⟨Nat.le_of_ble_eq_true rfl, Nat.le_of_ble_eq_true rfl⟩ rfl hl.1 rfl (Nat.le_of_ble_eq_true rfl) d_Mod_read_24) hD hS (fun H locs hP hD hS => ?_)
      refine lv_if_eq (tgt := 34) hx hb d_Mod_read_27 (by decide) (fun hc => ?_) (fun hc => ?_)
      · have h := if_t hc h
        exact v_Mod_read_34 X  hP hD hS (lv_sub hl [0, 1, 2, 3] rfl) h
      · have h := if_f hc h
        refine lv_iload_n hx hb d_Mod_read_30 rfl (lv_at hl 2 rfl) ?_
        refine lv_if_ge (tgt := 38) hx hb d_Mod_read_31 (by decide) (fun hc => ?_) (fun hc => ?_)
        · have h := if_t hc h
          refine lv_iconst (v := 0) hx hb d_Mod_read_38 (by decide) ?_
          exact v_Mod_read_39 X  hP hD hS (lv_sub hl [0, 1, 2, 3] rfl) h
        · have h := if_f hc h
          exact v_Mod_read_34 X  hP hD hS (lv_sub hl [0, 1, 2, 3] rfl) h
  · have h := if_f hc h
    refine lv_iconst (v := 0) hx hb d_Mod_read_7 (by decide) ?_
    cases h
    exact fx_iret X hP hD hS d_Mod_read_8
theorem d_Mod_byteAt_0 : decode prog_12_method_47_code 0 = .ok (.aload_n 0, 1) := by decide +kernel
theorem d_Mod_byteAt_1 : decode prog_12_method_47_code 1 = .ok (.iload_n 1, 1) := by decide +kernel
theorem d_Mod_byteAt_2 : decode prog_12_method_47_code 2 = .ok (.ifCond .ge 7, 3) := by decide +kernel
theorem d_Mod_byteAt_5 : decode prog_12_method_47_code 5 = .ok (.iconst 1, 1) := by decide +kernel
theorem d_Mod_byteAt_6 : decode prog_12_method_47_code 6 = .ok (.goto 4, 3) := by decide +kernel
theorem d_Mod_byteAt_9 : decode prog_12_method_47_code 9 = .ok (.iconst 0, 1) := by decide +kernel
theorem d_Mod_byteAt_10 : decode prog_12_method_47_code 10 = .ok (.iconst 0, 1) := by decide +kernel
theorem d_Mod_byteAt_11 : decode prog_12_method_47_code 11 = .ok (.invokevirtual 148, 3) := by decide +kernel
theorem d_Mod_byteAt_14 : decode prog_12_method_47_code 14 = .ok (.ifCond .eq 5, 3) := by decide +kernel
theorem d_Mod_byteAt_17 : decode prog_12_method_47_code 17 = .ok (.iconst 0, 1) := by decide +kernel
theorem d_Mod_byteAt_18 : decode prog_12_method_47_code 18 = .ok (.ireturn, 1) := by decide +kernel
theorem d_Mod_byteAt_19 : decode prog_12_method_47_code 19 = .ok (.iload_n 1, 1) := by decide +kernel
theorem d_Mod_byteAt_20 : decode prog_12_method_47_code 20 = .ok (.aload_n 0, 1) := by decide +kernel
theorem d_Mod_byteAt_21 : decode prog_12_method_47_code 21 = .ok (.getfield 210, 3) := by decide +kernel
theorem d_Mod_byteAt_24 : decode prog_12_method_47_code 24 = .ok (.if_icmp .ge 16, 3) := by decide +kernel
theorem d_Mod_byteAt_27 : decode prog_12_method_47_code 27 = .ok (.aload_n 0, 1) := by decide +kernel
theorem d_Mod_byteAt_28 : decode prog_12_method_47_code 28 = .ok (.getfield 17, 3) := by decide +kernel
theorem d_Mod_byteAt_31 : decode prog_12_method_47_code 31 = .ok (.iload_n 1, 1) := by decide +kernel
theorem d_Mod_byteAt_32 : decode prog_12_method_47_code 32 = .ok (.baload, 1) := by decide +kernel
theorem d_Mod_byteAt_33 : decode prog_12_method_47_code 33 = .ok (.sipush 255, 3) := by decide +kernel
theorem d_Mod_byteAt_36 : decode prog_12_method_47_code 36 = .ok (.iand, 1) := by decide +kernel
theorem d_Mod_byteAt_37 : decode prog_12_method_47_code 37 = .ok (.goto 4, 3) := by decide +kernel
theorem d_Mod_byteAt_40 : decode prog_12_method_47_code 40 = .ok (.iconst (-1), 1) := by decide +kernel
theorem d_Mod_byteAt_41 : decode prog_12_method_47_code 41 = .ok (.ireturn, 1) := by decide +kernel
set_option maxHeartbeats 4000000 in
set_option maxRecDepth 100000 in
theorem v_Mod_byteAt_10 {p : Program} {l : Launch} {e : Env} {s : State} {m : MethodId} {args : Array Value} {below : List Frame} {meth : Method} {c : Code} {D : va_G} {ad : Nat → Nat} {ca : Nat → ClassId} {A : Nat → Prop} {FU : Nat} {q : Int32 × St} (X : FX p s m meth c prog_12_method_47_code 2 (some .int) "FlashFilesModel" D (tyM ca) A) {y1 : Int32} {z0 : Int32} {g : St} {H : Heap} {locs : List Loc} {ls : Array Slot} (hP : va_P D cls (wM ad ca g) H) (hD : va_D A (wM ad ca g)) (hS : va_S A s.heap H locs) (hl : lv_has ls 2 [(0, .ref (ad 0)), (1, .int y1)]) (h : Mod_byteAt_b10 FU y1 z0 g = some q) : W p l e (rmN 2) s m args below meth c H locs 0 0 (MQ below (fxQi D (tyM ca) A (wM ad ca q.2) q.1) args s 0 0 A) (F0 m 10 ls [.int z0, .ref (ad 0)]) := by
  have hx := X.1
  have hb := X.2.1
  unfold Mod_byteAt_b10 at h
  refine lv_iconst (v := 0) hx hb d_Mod_byteAt_10 (by decide) ?_
  obtain ⟨p1, e1, h⟩ := bd_some h
  refine fx_i X (fx_runV (As := [.int z0, .int (0 : Int32)]) X (m_Mod_throwing e1 _) hP hD kv_Mod_148 ⟨Nat.le_of_ble_eq_true rfl, Nat.le_of_ble_eq_true rfl⟩ 0 rfl rfl rfl hl.1 rfl (Nat.le_of_ble_eq_true rfl) d_Mod_byteAt_11) hD hS (fun H locs hP hD hS => ?_)
  refine lv_if_eq (tgt := 19) hx hb d_Mod_byteAt_14 (by decide) (fun hc => ?_) (fun hc => ?_)
  · have h := if_t hc h
    refine lv_iload_n hx hb d_Mod_byteAt_19 rfl (lv_at hl 1 rfl) ?_
    refine lv_aload_n hx hb d_Mod_byteAt_20 rfl (lv_at hl 0 rfl) ?_
    refine gM_mod_toldSize X hP d_Mod_byteAt_21 ?_
    refine lv_icmp_ge (tgt := 40) hx hb d_Mod_byteAt_24 (by decide) (fun hc => ?_) (fun hc => ?_)
    · have h := if_t hc h
      refine lv_iconst (v := -1) hx hb d_Mod_byteAt_40 (by decide) ?_
      cases h
      exact fx_iret X hP hD hS d_Mod_byteAt_41
    · have h := if_f hc h
      refine lv_aload_n hx hb d_Mod_byteAt_27 rfl (lv_at hl 0 rfl) ?_
      refine gM_mod_told X hP d_Mod_byteAt_28 ?_
      refine lv_iload_n hx hb d_Mod_byteAt_31 rfl (lv_at hl 1 rfl) ?_
      obtain ⟨v2, e1, h⟩ := bd_some h
      refine rM_1 X hP e1 d_Mod_byteAt_32 ?_
      refine lv_sipush (v := 255) hx hb d_Mod_byteAt_33 (by decide) ?_
      refine lv_iand hx hb d_Mod_byteAt_36 ?_
      refine lv_goto (tgt := 41) hx hb d_Mod_byteAt_37 (by decide) ?_
      cases h
      exact fx_iret X hP hD hS d_Mod_byteAt_41
  · have h := if_f hc h
    refine lv_iconst (v := 0) hx hb d_Mod_byteAt_17 (by decide) ?_
    cases h
    exact fx_iret X hP hD hS d_Mod_byteAt_18
set_option maxHeartbeats 4000000 in
set_option maxRecDepth 100000 in
theorem m_Mod_byteAt {l : Launch} {D : va_G} {ad : Nat → Nat} {ca : Nat → ClassId} {FU : Nat} {x1 : Int32} {g : St} {q : Int32 × St} (h : Mod_byteAt FU x1 g = some q) : CI l ⟨"FlashFilesModel", "byteAt", "(I)I"⟩ prog_12_method_47_code 2 2 (some .int) D (tyM ca) (wM ad ca g) [.ref (ad 0), .int x1] q.1 (wM ad ca q.2) := by
  intro sz
  refine Met.fx (Qc := fun A => fxQi D (tyM ca) A (wM ad ca q.2) q.1) (by decide) (Nat.le_of_ble_eq_true rfl) ?_
  intro p e s m below meth c A ls X hP hD hl
  have hl : lv_has ls 2 [(0, .ref (ad 0)), (1, .int x1)] := hl
  have hS : va_S A s.heap s.heap [] := va_S.rf
  have hx := X.1
  have hb := X.2.1
  unfold Mod_byteAt at h
  refine lv_aload_n hx hb d_Mod_byteAt_0 rfl (lv_at hl 0 rfl) ?_
  refine lv_iload_n hx hb d_Mod_byteAt_1 rfl (lv_at hl 1 rfl) ?_
  refine lv_if_ge (tgt := 9) hx hb d_Mod_byteAt_2 (by decide) (fun hc => ?_) (fun hc => ?_)
  · have h := if_t hc h
    refine lv_iconst (v := 0) hx hb d_Mod_byteAt_9 (by decide) ?_
    exact v_Mod_byteAt_10 X  hP hD hS (lv_sub hl [0, 1] rfl) h
  · have h := if_f hc h
    refine lv_iconst (v := 1) hx hb d_Mod_byteAt_5 (by decide) ?_
    refine lv_goto (tgt := 10) hx hb d_Mod_byteAt_6 (by decide) ?_
    exact v_Mod_byteAt_10 X  hP hD hS (lv_sub hl [0, 1] rfl) h
theorem d_Mod_truncate_0 : decode prog_12_method_48_code 0 = .ok (.aload_n 0, 1) := by decide +kernel
theorem d_Mod_truncate_1 : decode prog_12_method_48_code 1 = .ok (.invokevirtual 169, 3) := by decide +kernel
theorem d_Mod_truncate_4 : decode prog_12_method_48_code 4 = .ok (.ifCond .eq 4, 3) := by decide +kernel
theorem d_Mod_truncate_7 : decode prog_12_method_48_code 7 = .ok (.return_, 1) := by decide +kernel
theorem d_Mod_truncate_8 : decode prog_12_method_48_code 8 = .ok (.aload_n 0, 1) := by decide +kernel
theorem d_Mod_truncate_9 : decode prog_12_method_48_code 9 = .ok (.aload_n 0, 1) := by decide +kernel
theorem d_Mod_truncate_10 : decode prog_12_method_48_code 10 = .ok (.iload_n 1, 1) := by decide +kernel
theorem d_Mod_truncate_11 : decode prog_12_method_48_code 11 = .ok (.iconst 1, 1) := by decide +kernel
theorem d_Mod_truncate_12 : decode prog_12_method_48_code 12 = .ok (.invokevirtual 172, 3) := by decide +kernel
theorem d_Mod_truncate_15 : decode prog_12_method_48_code 15 = .ok (.ifCond .eq 13, 3) := by decide +kernel
theorem d_Mod_truncate_18 : decode prog_12_method_48_code 18 = .ok (.iload_n 2, 1) := by decide +kernel
theorem d_Mod_truncate_19 : decode prog_12_method_48_code 19 = .ok (.iconst 0, 1) := by decide +kernel
theorem d_Mod_truncate_20 : decode prog_12_method_48_code 20 = .ok (.ldc 220, 2) := by decide +kernel
theorem d_Mod_truncate_22 : decode prog_12_method_48_code 22 = .ok (.invokestatic 144, 3) := by decide +kernel
theorem d_Mod_truncate_25 : decode prog_12_method_48_code 25 = .ok (.ifCond .ne 7, 3) := by decide +kernel
theorem d_Mod_truncate_28 : decode prog_12_method_48_code 28 = .ok (.iconst 1, 1) := by decide +kernel
theorem d_Mod_truncate_29 : decode prog_12_method_48_code 29 = .ok (.goto 4, 3) := by decide +kernel
theorem d_Mod_truncate_32 : decode prog_12_method_48_code 32 = .ok (.iconst 0, 1) := by decide +kernel
theorem d_Mod_truncate_33 : decode prog_12_method_48_code 33 = .ok (.iconst 0, 1) := by decide +kernel
theorem d_Mod_truncate_34 : decode prog_12_method_48_code 34 = .ok (.invokevirtual 148, 3) := by decide +kernel
theorem d_Mod_truncate_37 : decode prog_12_method_48_code 37 = .ok (.ifCond .ne 12, 3) := by decide +kernel
theorem d_Mod_truncate_40 : decode prog_12_method_48_code 40 = .ok (.aload_n 0, 1) := by decide +kernel
theorem d_Mod_truncate_41 : decode prog_12_method_48_code 41 = .ok (.bipush 6, 2) := by decide +kernel
theorem d_Mod_truncate_43 : decode prog_12_method_48_code 43 = .ok (.invokevirtual 188, 3) := by decide +kernel
theorem d_Mod_truncate_46 : decode prog_12_method_48_code 46 = .ok (.ifCond .eq 4, 3) := by decide +kernel
theorem d_Mod_truncate_49 : decode prog_12_method_48_code 49 = .ok (.return_, 1) := by decide +kernel
theorem d_Mod_truncate_50 : decode prog_12_method_48_code 50 = .ok (.iload_n 2, 1) := by decide +kernel
theorem d_Mod_truncate_51 : decode prog_12_method_48_code 51 = .ok (.aload_n 0, 1) := by decide +kernel
theorem d_Mod_truncate_52 : decode prog_12_method_48_code 52 = .ok (.getfield 24, 3) := by decide +kernel
theorem d_Mod_truncate_55 : decode prog_12_method_48_code 55 = .ok (.iload_n 1, 1) := by decide +kernel
theorem d_Mod_truncate_56 : decode prog_12_method_48_code 56 = .ok (.iaload, 1) := by decide +kernel
theorem d_Mod_truncate_57 : decode prog_12_method_48_code 57 = .ok (.if_icmp .lt 14, 3) := by decide +kernel
theorem d_Mod_truncate_60 : decode prog_12_method_48_code 60 = .ok (.iload_n 2, 1) := by decide +kernel
theorem d_Mod_truncate_61 : decode prog_12_method_48_code 61 = .ok (.ifCond .le 10, 3) := by decide +kernel
theorem d_Mod_truncate_64 : decode prog_12_method_48_code 64 = .ok (.aload_n 0, 1) := by decide +kernel
theorem d_Mod_truncate_65 : decode prog_12_method_48_code 65 = .ok (.iload_n 1, 1) := by decide +kernel
theorem d_Mod_truncate_66 : decode prog_12_method_48_code 66 = .ok (.iload_n 2, 1) := by decide +kernel
theorem d_Mod_truncate_67 : decode prog_12_method_48_code 67 = .ok (.invokevirtual 221, 3) := by decide +kernel
theorem d_Mod_truncate_70 : decode prog_12_method_48_code 70 = .ok (.return_, 1) := by decide +kernel
theorem d_Mod_truncate_71 : decode prog_12_method_48_code 71 = .ok (.iload_n 2, 1) := by decide +kernel
theorem d_Mod_truncate_72 : decode prog_12_method_48_code 72 = .ok (.sipush 255, 3) := by decide +kernel
theorem d_Mod_truncate_75 : decode prog_12_method_48_code 75 = .ok (.iadd, 1) := by decide +kernel
theorem d_Mod_truncate_76 : decode prog_12_method_48_code 76 = .ok (.sipush 256, 3) := by decide +kernel
theorem d_Mod_truncate_79 : decode prog_12_method_48_code 79 = .ok (.idiv, 1) := by decide +kernel
theorem d_Mod_truncate_80 : decode prog_12_method_48_code 80 = .ok (.istore_n 3, 1) := by decide +kernel
theorem d_Mod_truncate_81 : decode prog_12_method_48_code 81 = .ok (.iload_n 3, 1) := by decide +kernel
theorem d_Mod_truncate_82 : decode prog_12_method_48_code 82 = .ok (.sipush 391, 3) := by decide +kernel
theorem d_Mod_truncate_85 : decode prog_12_method_48_code 85 = .ok (.if_icmp .ge 19, 3) := by decide +kernel
theorem d_Mod_truncate_88 : decode prog_12_method_48_code 88 = .ok (.aload_n 0, 1) := by decide +kernel
theorem d_Mod_truncate_89 : decode prog_12_method_48_code 89 = .ok (.iconst 0, 1) := by decide +kernel
theorem d_Mod_truncate_90 : decode prog_12_method_48_code 90 = .ok (.iload_n 1, 1) := by decide +kernel
theorem d_Mod_truncate_91 : decode prog_12_method_48_code 91 = .ok (.iload_n 3, 1) := by decide +kernel
theorem d_Mod_truncate_92 : decode prog_12_method_48_code 92 = .ok (.invokestatic 82, 3) := by decide +kernel
theorem d_Mod_truncate_95 : decode prog_12_method_48_code 95 = .ok (.invokevirtual 90, 3) := by decide +kernel
theorem d_Mod_truncate_98 : decode prog_12_method_48_code 98 = .ok (.iinc 3 1, 3) := by decide +kernel
theorem d_Mod_truncate_101 : decode prog_12_method_48_code 101 = .ok (.goto (-20), 3) := by decide +kernel
theorem d_Mod_truncate_104 : decode prog_12_method_48_code 104 = .ok (.iload_n 2, 1) := by decide +kernel
theorem d_Mod_truncate_105 : decode prog_12_method_48_code 105 = .ok (.sipush 256, 3) := by decide +kernel
theorem d_Mod_truncate_108 : decode prog_12_method_48_code 108 = .ok (.idiv, 1) := by decide +kernel
theorem d_Mod_truncate_109 : decode prog_12_method_48_code 109 = .ok (.istore_n 3, 1) := by decide +kernel
theorem d_Mod_truncate_110 : decode prog_12_method_48_code 110 = .ok (.iload_n 2, 1) := by decide +kernel
theorem d_Mod_truncate_111 : decode prog_12_method_48_code 111 = .ok (.sipush 256, 3) := by decide +kernel
theorem d_Mod_truncate_114 : decode prog_12_method_48_code 114 = .ok (.irem, 1) := by decide +kernel
theorem d_Mod_truncate_115 : decode prog_12_method_48_code 115 = .ok (.ifCond .le 61, 3) := by decide +kernel
theorem d_Mod_truncate_118 : decode prog_12_method_48_code 118 = .ok (.aload_n 0, 1) := by decide +kernel
theorem d_Mod_truncate_119 : decode prog_12_method_48_code 119 = .ok (.getfield 41, 3) := by decide +kernel
theorem d_Mod_truncate_122 : decode prog_12_method_48_code 122 = .ok (.iconst 0, 1) := by decide +kernel
theorem d_Mod_truncate_123 : decode prog_12_method_48_code 123 = .ok (.iload_n 1, 1) := by decide +kernel
theorem d_Mod_truncate_124 : decode prog_12_method_48_code 124 = .ok (.iload_n 3, 1) := by decide +kernel
theorem d_Mod_truncate_125 : decode prog_12_method_48_code 125 = .ok (.invokestatic 82, 3) := by decide +kernel
theorem d_Mod_truncate_128 : decode prog_12_method_48_code 128 = .ok (.iaload, 1) := by decide +kernel
theorem d_Mod_truncate_129 : decode prog_12_method_48_code 129 = .ok (.ifCond .lt 47, 3) := by decide +kernel
theorem d_Mod_truncate_132 : decode prog_12_method_48_code 132 = .ok (.aload_n 0, 1) := by decide +kernel
theorem d_Mod_truncate_133 : decode prog_12_method_48_code 133 = .ok (.iload_n 1, 1) := by decide +kernel
theorem d_Mod_truncate_134 : decode prog_12_method_48_code 134 = .ok (.iload_n 3, 1) := by decide +kernel
theorem d_Mod_truncate_135 : decode prog_12_method_48_code 135 = .ok (.invokevirtual 216, 3) := by decide +kernel
theorem d_Mod_truncate_138 : decode prog_12_method_48_code 138 = .ok (.istore 4, 2) := by decide +kernel
theorem d_Mod_truncate_140 : decode prog_12_method_48_code 140 = .ok (.iload_n 2, 1) := by decide +kernel
theorem d_Mod_truncate_141 : decode prog_12_method_48_code 141 = .ok (.sipush 256, 3) := by decide +kernel
theorem d_Mod_truncate_144 : decode prog_12_method_48_code 144 = .ok (.irem, 1) := by decide +kernel
theorem d_Mod_truncate_145 : decode prog_12_method_48_code 145 = .ok (.istore 5, 2) := by decide +kernel
theorem d_Mod_truncate_147 : decode prog_12_method_48_code 147 = .ok (.iload 5, 2) := by decide +kernel
theorem d_Mod_truncate_149 : decode prog_12_method_48_code 149 = .ok (.sipush 256, 3) := by decide +kernel
theorem d_Mod_truncate_152 : decode prog_12_method_48_code 152 = .ok (.if_icmp .ge 24, 3) := by decide +kernel
theorem d_Mod_truncate_155 : decode prog_12_method_48_code 155 = .ok (.aload_n 0, 1) := by decide +kernel
theorem d_Mod_truncate_156 : decode prog_12_method_48_code 156 = .ok (.getfield 45, 3) := by decide +kernel
theorem d_Mod_truncate_159 : decode prog_12_method_48_code 159 = .ok (.sipush 256, 3) := by decide +kernel
theorem d_Mod_truncate_162 : decode prog_12_method_48_code 162 = .ok (.iload 4, 2) := by decide +kernel
theorem d_Mod_truncate_164 : decode prog_12_method_48_code 164 = .ok (.imul, 1) := by decide +kernel
theorem d_Mod_truncate_165 : decode prog_12_method_48_code 165 = .ok (.iload 5, 2) := by decide +kernel
theorem d_Mod_truncate_167 : decode prog_12_method_48_code 167 = .ok (.iadd, 1) := by decide +kernel
theorem d_Mod_truncate_168 : decode prog_12_method_48_code 168 = .ok (.iconst 0, 1) := by decide +kernel
theorem d_Mod_truncate_169 : decode prog_12_method_48_code 169 = .ok (.bastore, 1) := by decide +kernel
theorem d_Mod_truncate_170 : decode prog_12_method_48_code 170 = .ok (.iinc 5 1, 3) := by decide +kernel
theorem d_Mod_truncate_173 : decode prog_12_method_48_code 173 = .ok (.goto (-26), 3) := by decide +kernel
theorem d_Mod_truncate_176 : decode prog_12_method_48_code 176 = .ok (.aload_n 0, 1) := by decide +kernel
theorem d_Mod_truncate_177 : decode prog_12_method_48_code 177 = .ok (.getfield 24, 3) := by decide +kernel
theorem d_Mod_truncate_180 : decode prog_12_method_48_code 180 = .ok (.iload_n 1, 1) := by decide +kernel
theorem d_Mod_truncate_181 : decode prog_12_method_48_code 181 = .ok (.iload_n 2, 1) := by decide +kernel
theorem d_Mod_truncate_182 : decode prog_12_method_48_code 182 = .ok (.iastore, 1) := by decide +kernel
theorem d_Mod_truncate_183 : decode prog_12_method_48_code 183 = .ok (.aload_n 0, 1) := by decide +kernel
theorem d_Mod_truncate_184 : decode prog_12_method_48_code 184 = .ok (.getfield 30, 3) := by decide +kernel
theorem d_Mod_truncate_187 : decode prog_12_method_48_code 187 = .ok (.iload_n 1, 1) := by decide +kernel
theorem d_Mod_truncate_188 : decode prog_12_method_48_code 188 = .ok (.aload_n 0, 1) := by decide +kernel
theorem d_Mod_truncate_189 : decode prog_12_method_48_code 189 = .ok (.getfield 30, 3) := by decide +kernel
theorem d_Mod_truncate_192 : decode prog_12_method_48_code 192 = .ok (.iload_n 1, 1) := by decide +kernel
theorem d_Mod_truncate_193 : decode prog_12_method_48_code 193 = .ok (.baload, 1) := by decide +kernel
theorem d_Mod_truncate_194 : decode prog_12_method_48_code 194 = .ok (.ifCond .ne 7, 3) := by decide +kernel
theorem d_Mod_truncate_197 : decode prog_12_method_48_code 197 = .ok (.iload_n 2, 1) := by decide +kernel
theorem d_Mod_truncate_198 : decode prog_12_method_48_code 198 = .ok (.ifCond .ne 7, 3) := by decide +kernel
theorem d_Mod_truncate_201 : decode prog_12_method_48_code 201 = .ok (.iconst 1, 1) := by decide +kernel
theorem d_Mod_truncate_202 : decode prog_12_method_48_code 202 = .ok (.goto 4, 3) := by decide +kernel
theorem d_Mod_truncate_205 : decode prog_12_method_48_code 205 = .ok (.iconst 0, 1) := by decide +kernel
theorem d_Mod_truncate_206 : decode prog_12_method_48_code 206 = .ok (.bastore, 1) := by decide +kernel
theorem d_Mod_truncate_207 : decode prog_12_method_48_code 207 = .ok (.return_, 1) := by decide +kernel
set_option maxHeartbeats 4000000 in
set_option maxRecDepth 100000 in
theorem v_Mod_truncate_176 {p : Program} {l : Launch} {e : Env} {s : State} {m : MethodId} {args : Array Value} {below : List Frame} {meth : Method} {c : Code} {D : va_G} {ad : Nat → Nat} {ca : Nat → ClassId} {A : Nat → Prop} {FU : Nat} {q : St} (X : FX p s m meth c prog_12_method_48_code 6 none "FlashFilesModel" D (tyM ca) A) {y1 : Int32} {y2 : Int32} {g : St} {H : Heap} {locs : List Loc} {ls : Array Slot} (hP : va_P D cls (wM ad ca g) H) (hD : va_D A (wM ad ca g)) (hS : va_S A s.heap H locs) (hl : lv_has ls 6 [(0, .ref (ad 0)), (1, .int y1), (2, .int y2)]) (h : Mod_truncate_b176 FU y1 y2 g = some q) : W p l e (rmN 6) s m args below meth c H locs 0 0 (MQ below (fxQv D (tyM ca) A (wM ad ca q)) args s 0 0 A) (F0 m 176 ls []) := by
  have hx := X.1
  have hb := X.2.1
  unfold Mod_truncate_b176 at h
  refine lv_aload_n hx hb d_Mod_truncate_176 rfl (lv_at hl 0 rfl) ?_
  refine gM_mod_size X hP d_Mod_truncate_177 ?_
  refine lv_iload_n hx hb d_Mod_truncate_180 rfl (lv_at hl 1 rfl) ?_
  refine lv_iload_n hx hb d_Mod_truncate_181 rfl (lv_at hl 2 rfl) ?_
  obtain ⟨g1, e1, h⟩ := bd_some h
  refine sM_3 X hP hD hS e1 d_Mod_truncate_182 (fun H locs hP hD hS => ?_)
  refine lv_aload_n hx hb d_Mod_truncate_183 rfl (lv_at hl 0 rfl) ?_
  refine gM_mod_small X hP d_Mod_truncate_184 ?_
  refine lv_iload_n hx hb d_Mod_truncate_187 rfl (lv_at hl 1 rfl) ?_
  refine lv_aload_n hx hb d_Mod_truncate_188 rfl (lv_at hl 0 rfl) ?_
  refine gM_mod_small X hP d_Mod_truncate_189 ?_
  refine lv_iload_n hx hb d_Mod_truncate_192 rfl (lv_at hl 1 rfl) ?_
  obtain ⟨v2, e1, h⟩ := bd_some h
  refine rM_5 X hP e1 d_Mod_truncate_193 ?_
  refine lv_if_ne (tgt := 201) hx hb d_Mod_truncate_194 (by decide) (fun hc => ?_) (fun hc => ?_)
  · have h := if_f hc h
    refine lv_iconst (v := 1) hx hb d_Mod_truncate_201 (by decide) ?_
    refine lv_goto (tgt := 206) hx hb d_Mod_truncate_202 (by decide) ?_
    obtain ⟨g3, e1, h⟩ := bd_some h
    refine sM_5 X hP hD hS e1 d_Mod_truncate_206 (fun H locs hP hD hS => ?_)
    cases h
    exact fx_vret X hP hD hS d_Mod_truncate_207
  · have h := if_t hc h
    refine lv_iload_n hx hb d_Mod_truncate_197 rfl (lv_at hl 2 rfl) ?_
    refine lv_if_ne (tgt := 205) hx hb d_Mod_truncate_198 (by decide) (fun hc => ?_) (fun hc => ?_)
    · have h := if_f hc h
      refine lv_iconst (v := 0) hx hb d_Mod_truncate_205 (by decide) ?_
      obtain ⟨g4, e1, h⟩ := bd_some h
      refine sM_5 X hP hD hS e1 d_Mod_truncate_206 (fun H locs hP hD hS => ?_)
      cases h
      exact fx_vret X hP hD hS d_Mod_truncate_207
    · have h := if_t hc h
      refine lv_iconst (v := 1) hx hb d_Mod_truncate_201 (by decide) ?_
      refine lv_goto (tgt := 206) hx hb d_Mod_truncate_202 (by decide) ?_
      obtain ⟨g5, e1, h⟩ := bd_some h
      refine sM_5 X hP hD hS e1 d_Mod_truncate_206 (fun H locs hP hD hS => ?_)
      cases h
      exact fx_vret X hP hD hS d_Mod_truncate_207
set_option maxHeartbeats 4000000 in
set_option maxRecDepth 100000 in
theorem v_Mod_truncate_147 {p : Program} {l : Launch} {e : Env} {s : State} {m : MethodId} {args : Array Value} {below : List Frame} {meth : Method} {c : Code} {D : va_G} {ad : Nat → Nat} {ca : Nat → ClassId} {A : Nat → Prop} {FU : Nat} {q : St} (X : FX p s m meth c prog_12_method_48_code 6 none "FlashFilesModel" D (tyM ca) A) : ∀ (n : Nat), ∀ (y1 y2 y4 y5 : Int32) (g : St) (H : Heap) (locs : List Loc) (ls : Array Slot), va_P D cls (wM ad ca g) H → va_D A (wM ad ca g) → va_S A s.heap H locs → lv_has ls 6 [(0, .ref (ad 0)), (1, .int y1), (2, .int y2), (4, .int y4), (5, .int y5)] → Mod_truncate_b147 FU n y1 y2 y4 y5 g = some q → W p l e (rmN 6) s m args below meth c H locs 0 0 (MQ below (fxQv D (tyM ca) A (wM ad ca q)) args s 0 0 A) (F0 m 147 ls []) := by
  have hx := X.1
  have hb := X.2.1
  intro n
  induction n with
  | zero =>
    intro y1 y2 y4 y5 g H locs ls hP hD hS hl h
    cases h
  | succ n ih =>
    intro y1 y2 y4 y5 g H locs ls hP hD hS hl h
    have h := h
    rw [Mod_truncate_b147.eq_2] at h
    refine lv_iload hx hb d_Mod_truncate_147 (lv_at hl 4 rfl) ?_
    refine lv_sipush (v := 256) hx hb d_Mod_truncate_149 (by decide) ?_
    refine lv_icmp_ge (tgt := 176) hx hb d_Mod_truncate_152 (by decide) (fun hc => ?_) (fun hc => ?_)
    · have h := if_t hc h
      exact v_Mod_truncate_176 X  hP hD hS (lv_sub hl [0, 1, 2] rfl) h
    · have h := if_f hc h
      refine lv_aload_n hx hb d_Mod_truncate_155 rfl (lv_at hl 0 rfl) ?_
      refine gM_mod_pool X hP d_Mod_truncate_156 ?_
      refine lv_sipush (v := 256) hx hb d_Mod_truncate_159 (by decide) ?_
      refine lv_iload hx hb d_Mod_truncate_162 (lv_at hl 3 rfl) ?_
      refine lv_imul hx hb d_Mod_truncate_164 ?_
      refine lv_iload hx hb d_Mod_truncate_165 (lv_at hl 4 rfl) ?_
      refine lv_iadd hx hb d_Mod_truncate_167 ?_
      refine lv_iconst (v := 0) hx hb d_Mod_truncate_168 (by decide) ?_
      obtain ⟨g6, e1, h⟩ := bd_some h
      refine sM_9 X hP hD hS e1 d_Mod_truncate_169 (fun H locs hP hD hS => ?_)
      refine lv_iinc (k := 4) (v := (y5 + (1 : Int32))) hx hb d_Mod_truncate_170 hl rfl (oi_1 _) (by decide) rfl (fun ls hl => ?_)
      have hl : lv_has ls 6 [(5, .int (y5 + (1 : Int32))), (0, .ref (ad 0)), (1, .int y1), (2, .int y2), (4, .int y4)] := hl
      refine lv_goto (tgt := 147) hx hb d_Mod_truncate_173 (by decide) ?_
      exact ih _ _ _ _ _ _ _ _ hP hD hS (lv_sub hl [1, 2, 3, 4, 0] rfl) h
set_option maxHeartbeats 4000000 in
set_option maxRecDepth 100000 in
theorem v_Mod_truncate_81 {p : Program} {l : Launch} {e : Env} {s : State} {m : MethodId} {args : Array Value} {below : List Frame} {meth : Method} {c : Code} {D : va_G} {ad : Nat → Nat} {ca : Nat → ClassId} {A : Nat → Prop} {FU : Nat} {q : St} (X : FX p s m meth c prog_12_method_48_code 6 none "FlashFilesModel" D (tyM ca) A) : ∀ (n : Nat), ∀ (y1 y2 y3 : Int32) (g : St) (H : Heap) (locs : List Loc) (ls : Array Slot), va_P D cls (wM ad ca g) H → va_D A (wM ad ca g) → va_S A s.heap H locs → lv_has ls 6 [(0, .ref (ad 0)), (1, .int y1), (2, .int y2), (3, .int y3)] → Mod_truncate_b81 FU n y1 y2 y3 g = some q → W p l e (rmN 6) s m args below meth c H locs 0 0 (MQ below (fxQv D (tyM ca) A (wM ad ca q)) args s 0 0 A) (F0 m 81 ls []) := by
  have hx := X.1
  have hb := X.2.1
  intro n
  induction n with
  | zero =>
    intro y1 y2 y3 g H locs ls hP hD hS hl h
    cases h
  | succ n ih =>
    intro y1 y2 y3 g H locs ls hP hD hS hl h
    have h := h
    rw [Mod_truncate_b81.eq_2] at h
    refine lv_iload_n hx hb d_Mod_truncate_81 rfl (lv_at hl 3 rfl) ?_
    refine lv_sipush (v := 391) hx hb d_Mod_truncate_82 (by decide) ?_
    refine lv_icmp_ge (tgt := 104) hx hb d_Mod_truncate_85 (by decide) (fun hc => ?_) (fun hc => ?_)
    · have h := if_t hc h
      refine lv_iload_n hx hb d_Mod_truncate_104 rfl (lv_at hl 2 rfl) ?_
      refine lv_sipush (v := 256) hx hb d_Mod_truncate_105 (by decide) ?_
      refine lv_idiv hx hb d_Mod_truncate_108 (by decide) ?_
      refine lv_istore_n hx hb d_Mod_truncate_109 rfl hl (by decide) rfl (fun ls hl => ?_)
      have hl : lv_has ls 6 [(3, .int (y2 / (256 : Int32))), (0, .ref (ad 0)), (1, .int y1), (2, .int y2)] := hl
      refine lv_iload_n hx hb d_Mod_truncate_110 rfl (lv_at hl 3 rfl) ?_
      refine lv_sipush (v := 256) hx hb d_Mod_truncate_111 (by decide) ?_
      refine lv_irem hx hb d_Mod_truncate_114 (by decide) ?_
      refine lv_if_le (tgt := 176) hx hb d_Mod_truncate_115 (by decide) (fun hc => ?_) (fun hc => ?_)
      · have h := if_t hc h
        exact v_Mod_truncate_176 X  hP hD hS (lv_sub hl [1, 2, 3] rfl) h
      · have h := if_f hc h
        refine lv_aload_n hx hb d_Mod_truncate_118 rfl (lv_at hl 1 rfl) ?_
        refine gM_mod_piece X hP d_Mod_truncate_119 ?_
        refine lv_iconst (v := 0) hx hb d_Mod_truncate_122 (by decide) ?_
        refine lv_iload_n hx hb d_Mod_truncate_123 rfl (lv_at hl 2 rfl) ?_
        refine lv_iload_n hx hb d_Mod_truncate_124 rfl (lv_at hl 0 rfl) ?_
        obtain ⟨v7, e1, h⟩ := bd_some h
        refine fx_i X (fx_runS X (m_Mod_at e1 _) (As := [.int (0 : Int32), .int y1, .int (y2 / (256 : Int32))]) hP hD ks_Mod_82 ⟨Nat.le_of_ble_eq_true rfl, Nat.le_of_ble_eq_true rfl⟩ rfl hl.1 rfl (Nat.le_of_ble_eq_true rfl) d_Mod_truncate_125) hD hS (fun H locs hP hD hS => ?_)
        obtain ⟨v8, e1, h⟩ := bd_some h
        refine rM_8 X hP e1 d_Mod_truncate_128 ?_
        refine lv_if_lt (tgt := 176) hx hb d_Mod_truncate_129 (by decide) (fun hc => ?_) (fun hc => ?_)
        · have h := if_t hc h
          exact v_Mod_truncate_176 X  hP hD hS (lv_sub hl [1, 2, 3] rfl) h
        · have h := if_f hc h
          refine lv_aload_n hx hb d_Mod_truncate_132 rfl (lv_at hl 1 rfl) ?_
          refine lv_iload_n hx hb d_Mod_truncate_133 rfl (lv_at hl 2 rfl) ?_
          refine lv_iload_n hx hb d_Mod_truncate_134 rfl (lv_at hl 0 rfl) ?_
          obtain ⟨p9, e1, h⟩ := bd_some h
          refine fx_i X (fx_runV (As := [.int y1, .int (y2 / (256 : Int32))]) X (m_Mod_own e1 _) hP hD kv_Mod_216 ⟨Nat.le_of_ble_eq_true rfl, Nat.le_of_ble_eq_true rfl⟩ 0 rfl rfl rfl hl.1 rfl (Nat.le_of_ble_eq_true rfl) d_Mod_truncate_135) hD hS (fun H locs hP hD hS => ?_)
          refine lv_istore hx hb d_Mod_truncate_138 hl (by decide) rfl (fun ls hl => ?_)
          have hl : lv_has ls 6 [(4, .int p9.1), (3, .int (y2 / (256 : Int32))), (0, .ref (ad 0)), (1, .int y1), (2, .int y2)] := hl
          refine lv_iload_n hx hb d_Mod_truncate_140 rfl (lv_at hl 4 rfl) ?_
          refine lv_sipush (v := 256) hx hb d_Mod_truncate_141 (by decide) ?_
          refine lv_irem hx hb d_Mod_truncate_144 (by decide) ?_
          refine lv_istore hx hb d_Mod_truncate_145 hl (by decide) rfl (fun ls hl => ?_)
          have hl : lv_has ls 6 [(5, .int (y2 - y2 / (256 : Int32) * (256 : Int32))), (4, .int p9.1), (3, .int (y2 / (256 : Int32))), (0, .ref (ad 0)), (1, .int y1), (2, .int y2)] := hl
          exact v_Mod_truncate_147 X  _ _ _ _ _ _ _ _ _ hP hD hS (lv_sub hl [3, 4, 5, 1, 0] rfl) h
    · have h := if_f hc h
      refine lv_aload_n hx hb d_Mod_truncate_88 rfl (lv_at hl 0 rfl) ?_
      refine lv_iconst (v := 0) hx hb d_Mod_truncate_89 (by decide) ?_
      refine lv_iload_n hx hb d_Mod_truncate_90 rfl (lv_at hl 1 rfl) ?_
      refine lv_iload_n hx hb d_Mod_truncate_91 rfl (lv_at hl 3 rfl) ?_
      obtain ⟨v10, e1, h⟩ := bd_some h
      refine fx_i X (fx_runS X (m_Mod_at e1 _) (As := [.int (0 : Int32), .int y1, .int y3]) hP hD ks_Mod_82 ⟨Nat.le_of_ble_eq_true rfl, Nat.le_of_ble_eq_true rfl⟩ rfl hl.1 rfl (Nat.le_of_ble_eq_true rfl) d_Mod_truncate_92) hD hS (fun H locs hP hD hS => ?_)
      obtain ⟨p11, e1, h⟩ := bd_some h
      refine fx_v X (fx_runV (As := [.int v10]) X (m_Mod_leave e1 _) hP hD kv_Mod_90 ⟨Nat.le_of_ble_eq_true rfl, Nat.le_of_ble_eq_true rfl⟩ 0 rfl rfl rfl hl.1 rfl (Nat.le_of_ble_eq_true rfl) d_Mod_truncate_95) hD hS (fun H locs hP hD hS => ?_)
      refine lv_iinc (k := 3) (v := (y3 + (1 : Int32))) hx hb d_Mod_truncate_98 hl rfl (oi_1 _) (by decide) rfl (fun ls hl => ?_)
      have hl : lv_has ls 6 [(3, .int (y3 + (1 : Int32))), (0, .ref (ad 0)), (1, .int y1), (2, .int y2)] := hl
      refine lv_goto (tgt := 81) hx hb d_Mod_truncate_101 (by decide) ?_
      exact ih _ _ _ _ _ _ _ hP hD hS (lv_sub hl [1, 2, 3, 0] rfl) h
set_option maxHeartbeats 4000000 in
set_option maxRecDepth 100000 in
theorem v_Mod_truncate_71 {p : Program} {l : Launch} {e : Env} {s : State} {m : MethodId} {args : Array Value} {below : List Frame} {meth : Method} {c : Code} {D : va_G} {ad : Nat → Nat} {ca : Nat → ClassId} {A : Nat → Prop} {FU : Nat} {q : St} (X : FX p s m meth c prog_12_method_48_code 6 none "FlashFilesModel" D (tyM ca) A) {y1 : Int32} {y2 : Int32} {g : St} {H : Heap} {locs : List Loc} {ls : Array Slot} (hP : va_P D cls (wM ad ca g) H) (hD : va_D A (wM ad ca g)) (hS : va_S A s.heap H locs) (hl : lv_has ls 6 [(0, .ref (ad 0)), (1, .int y1), (2, .int y2)]) (h : Mod_truncate_b71 FU y1 y2 g = some q) : W p l e (rmN 6) s m args below meth c H locs 0 0 (MQ below (fxQv D (tyM ca) A (wM ad ca q)) args s 0 0 A) (F0 m 71 ls []) := by
  have hx := X.1
  have hb := X.2.1
  unfold Mod_truncate_b71 at h
  refine lv_iload_n hx hb d_Mod_truncate_71 rfl (lv_at hl 2 rfl) ?_
  refine lv_sipush (v := 255) hx hb d_Mod_truncate_72 (by decide) ?_
  refine lv_iadd hx hb d_Mod_truncate_75 ?_
  refine lv_sipush (v := 256) hx hb d_Mod_truncate_76 (by decide) ?_
  refine lv_idiv hx hb d_Mod_truncate_79 (by decide) ?_
  refine lv_istore_n hx hb d_Mod_truncate_80 rfl hl (by decide) rfl (fun ls hl => ?_)
  have hl : lv_has ls 6 [(3, .int ((y2 + (255 : Int32)) / (256 : Int32))), (0, .ref (ad 0)), (1, .int y1), (2, .int y2)] := hl
  exact v_Mod_truncate_81 X  _ _ _ _ _ _ _ _ hP hD hS (lv_sub hl [1, 2, 3, 0] rfl) h
set_option maxHeartbeats 4000000 in
set_option maxRecDepth 100000 in
theorem v_Mod_truncate_33 {p : Program} {l : Launch} {e : Env} {s : State} {m : MethodId} {args : Array Value} {below : List Frame} {meth : Method} {c : Code} {D : va_G} {ad : Nat → Nat} {ca : Nat → ClassId} {A : Nat → Prop} {FU : Nat} {q : St} (X : FX p s m meth c prog_12_method_48_code 6 none "FlashFilesModel" D (tyM ca) A) {y1 : Int32} {y2 : Int32} {z0 : Int32} {g : St} {H : Heap} {locs : List Loc} {ls : Array Slot} (hP : va_P D cls (wM ad ca g) H) (hD : va_D A (wM ad ca g)) (hS : va_S A s.heap H locs) (hl : lv_has ls 6 [(0, .ref (ad 0)), (1, .int y1), (2, .int y2)]) (h : Mod_truncate_b33 FU y1 y2 z0 g = some q) : W p l e (rmN 6) s m args below meth c H locs 0 0 (MQ below (fxQv D (tyM ca) A (wM ad ca q)) args s 0 0 A) (F0 m 33 ls [.int z0, .ref (ad 0)]) := by
  have hx := X.1
  have hb := X.2.1
  unfold Mod_truncate_b33 at h
  refine lv_iconst (v := 0) hx hb d_Mod_truncate_33 (by decide) ?_
  obtain ⟨p12, e1, h⟩ := bd_some h
  refine fx_i X (fx_runV (As := [.int z0, .int (0 : Int32)]) X (m_Mod_throwing e1 _) hP hD kv_Mod_148 ⟨Nat.le_of_ble_eq_true rfl, Nat.le_of_ble_eq_true rfl⟩ 0 rfl rfl rfl hl.1 rfl (Nat.le_of_ble_eq_true rfl) d_Mod_truncate_34) hD hS (fun H locs hP hD hS => ?_)
  refine lv_if_ne (tgt := 49) hx hb d_Mod_truncate_37 (by decide) (fun hc => ?_) (fun hc => ?_)
  · have h := if_f hc h
    cases h
    exact fx_vret X hP hD hS d_Mod_truncate_49
  · have h := if_t hc h
    refine lv_aload_n hx hb d_Mod_truncate_40 rfl (lv_at hl 0 rfl) ?_
    refine lv_bipush (v := 6) hx hb d_Mod_truncate_41 (by decide) ?_
    obtain ⟨p13, e1, h⟩ := bd_some h
    refine fx_i X (fx_runV (As := [.int (6 : Int32)]) X (m_Mod_stops e1 _) hP hD kv_Mod_188 ⟨Nat.le_of_ble_eq_true rfl, Nat.le_of_ble_eq_true rfl⟩ 0 rfl rfl rfl hl.1 rfl (Nat.le_of_ble_eq_true rfl) d_Mod_truncate_43) hD hS (fun H locs hP hD hS => ?_)
    refine lv_if_eq (tgt := 50) hx hb d_Mod_truncate_46 (by decide) (fun hc => ?_) (fun hc => ?_)
    · have h := if_t hc h
      refine lv_iload_n hx hb d_Mod_truncate_50 rfl (lv_at hl 2 rfl) ?_
      refine lv_aload_n hx hb d_Mod_truncate_51 rfl (lv_at hl 0 rfl) ?_
      refine gM_mod_size X hP d_Mod_truncate_52 ?_
      refine lv_iload_n hx hb d_Mod_truncate_55 rfl (lv_at hl 1 rfl) ?_
      obtain ⟨v14, e1, h⟩ := bd_some h
      refine rM_3 X hP e1 d_Mod_truncate_56 ?_
      refine lv_icmp_lt (tgt := 71) hx hb d_Mod_truncate_57 (by decide) (fun hc => ?_) (fun hc => ?_)
      · have h := if_t hc h
        exact v_Mod_truncate_71 X  hP hD hS (lv_sub hl [0, 1, 2] rfl) h
      · have h := if_f hc h
        refine lv_iload_n hx hb d_Mod_truncate_60 rfl (lv_at hl 2 rfl) ?_
        refine lv_if_le (tgt := 71) hx hb d_Mod_truncate_61 (by decide) (fun hc => ?_) (fun hc => ?_)
        · have h := if_t hc h
          exact v_Mod_truncate_71 X  hP hD hS (lv_sub hl [0, 1, 2] rfl) h
        · have h := if_f hc h
          refine lv_aload_n hx hb d_Mod_truncate_64 rfl (lv_at hl 0 rfl) ?_
          refine lv_iload_n hx hb d_Mod_truncate_65 rfl (lv_at hl 1 rfl) ?_
          refine lv_iload_n hx hb d_Mod_truncate_66 rfl (lv_at hl 2 rfl) ?_
          obtain ⟨p15, e1, h⟩ := bd_some h
          refine fx_v X (fx_runV (As := [.int y1, .int y2]) X (m_Mod_grow e1 _) hP hD kv_Mod_221 ⟨Nat.le_of_ble_eq_true rfl, Nat.le_of_ble_eq_true rfl⟩ 0 rfl rfl rfl hl.1 rfl (Nat.le_of_ble_eq_true rfl) d_Mod_truncate_67) hD hS (fun H locs hP hD hS => ?_)
          cases h
          exact fx_vret X hP hD hS d_Mod_truncate_70
    · have h := if_f hc h
      cases h
      exact fx_vret X hP hD hS d_Mod_truncate_49
set_option maxHeartbeats 4000000 in
set_option maxRecDepth 100000 in
theorem v_Mod_truncate_28 {p : Program} {l : Launch} {e : Env} {s : State} {m : MethodId} {args : Array Value} {below : List Frame} {meth : Method} {c : Code} {D : va_G} {ad : Nat → Nat} {ca : Nat → ClassId} {A : Nat → Prop} {FU : Nat} {q : St} (X : FX p s m meth c prog_12_method_48_code 6 none "FlashFilesModel" D (tyM ca) A) {y1 : Int32} {y2 : Int32} {g : St} {H : Heap} {locs : List Loc} {ls : Array Slot} (hP : va_P D cls (wM ad ca g) H) (hD : va_D A (wM ad ca g)) (hS : va_S A s.heap H locs) (hl : lv_has ls 6 [(0, .ref (ad 0)), (1, .int y1), (2, .int y2)]) (h : Mod_truncate_b28 FU y1 y2 g = some q) : W p l e (rmN 6) s m args below meth c H locs 0 0 (MQ below (fxQv D (tyM ca) A (wM ad ca q)) args s 0 0 A) (F0 m 28 ls [.ref (ad 0)]) := by
  have hx := X.1
  have hb := X.2.1
  unfold Mod_truncate_b28 at h
  refine lv_iconst (v := 1) hx hb d_Mod_truncate_28 (by decide) ?_
  refine lv_goto (tgt := 33) hx hb d_Mod_truncate_29 (by decide) ?_
  exact v_Mod_truncate_33 X  hP hD hS (lv_sub hl [0, 1, 2] rfl) h
set_option maxHeartbeats 4000000 in
set_option maxRecDepth 100000 in
theorem m_Mod_truncate {l : Launch} {D : va_G} {ad : Nat → Nat} {ca : Nat → ClassId} {FU : Nat} {x1 : Int32} {x2 : Int32} {g : St} {q : St} (h : Mod_truncate FU x1 x2 g = some q) : CV l ⟨"FlashFilesModel", "truncate", "(II)V"⟩ prog_12_method_48_code 6 6 D (tyM ca) (wM ad ca g) [.ref (ad 0), .int x1, .int x2] (wM ad ca q) := by
  intro sz
  refine Met.fx (Qc := fun A => fxQv D (tyM ca) A (wM ad ca q)) (by decide) (Nat.le_of_ble_eq_true rfl) ?_
  intro p e s m below meth c A ls X hP hD hl
  have hl : lv_has ls 6 [(0, .ref (ad 0)), (1, .int x1), (2, .int x2)] := hl
  have hS : va_S A s.heap s.heap [] := va_S.rf
  have hx := X.1
  have hb := X.2.1
  unfold Mod_truncate at h
  refine lv_aload_n hx hb d_Mod_truncate_0 rfl (lv_at hl 0 rfl) ?_
  obtain ⟨p16, e1, h⟩ := bd_some h
  refine fx_i X (fx_runV (As := []) X (m_Mod_isOff e1 _) hP hD kv_Mod_169 ⟨Nat.le_of_ble_eq_true rfl, Nat.le_of_ble_eq_true rfl⟩ 0 rfl rfl rfl hl.1 rfl (Nat.le_of_ble_eq_true rfl) d_Mod_truncate_1) hD hS (fun H locs hP hD hS => ?_)
  refine lv_if_eq (tgt := 8) hx hb d_Mod_truncate_4 (by decide) (fun hc => ?_) (fun hc => ?_)
  · have h := if_t hc h
    refine lv_aload_n hx hb d_Mod_truncate_8 rfl (lv_at hl 0 rfl) ?_
    refine lv_aload_n hx hb d_Mod_truncate_9 rfl (lv_at hl 0 rfl) ?_
    refine lv_iload_n hx hb d_Mod_truncate_10 rfl (lv_at hl 1 rfl) ?_
    refine lv_iconst (v := 1) hx hb d_Mod_truncate_11 (by decide) ?_
    obtain ⟨v17, e1, h⟩ := bd_some h
    refine fx_i X (fx_runV (As := [.int x1, .int (1 : Int32)]) X (m_Mod_is e1 _) hP hD kv_Mod_172 ⟨Nat.le_of_ble_eq_true rfl, Nat.le_of_ble_eq_true rfl⟩ 0 rfl rfl rfl hl.1 rfl (Nat.le_of_ble_eq_true rfl) d_Mod_truncate_12) hD hS (fun H locs hP hD hS => ?_)
    refine lv_if_eq (tgt := 28) hx hb d_Mod_truncate_15 (by decide) (fun hc => ?_) (fun hc => ?_)
    · have h := if_t hc h
      exact v_Mod_truncate_28 X  hP hD hS (lv_sub hl [0, 1, 2] rfl) h
    · have h := if_f hc h
      refine lv_iload_n hx hb d_Mod_truncate_18 rfl (lv_at hl 2 rfl) ?_
      refine lv_iconst (v := 0) hx hb d_Mod_truncate_19 (by decide) ?_
      refine lv_ldc (v := 100000) hx hb X.2.2.2.2.2.1 (X.2.2.2.2.2.2.1.use q8_163) d_Mod_truncate_20 ?_
      obtain ⟨v18, e1, h⟩ := bd_some h
      refine fx_i X (fx_runS X (m_Mod_in e1 _) (As := [.int x2, .int (0 : Int32), .int (100000 : Int32)]) hP hD ks_Mod_144 ⟨Nat.le_of_ble_eq_true rfl, Nat.le_of_ble_eq_true rfl⟩ rfl hl.1 rfl (Nat.le_of_ble_eq_true rfl) d_Mod_truncate_22) hD hS (fun H locs hP hD hS => ?_)
      refine lv_if_ne (tgt := 32) hx hb d_Mod_truncate_25 (by decide) (fun hc => ?_) (fun hc => ?_)
      · have h := if_f hc h
        refine lv_iconst (v := 0) hx hb d_Mod_truncate_32 (by decide) ?_
        exact v_Mod_truncate_33 X  hP hD hS (lv_sub hl [0, 1, 2] rfl) h
      · have h := if_t hc h
        exact v_Mod_truncate_28 X  hP hD hS (lv_sub hl [0, 1, 2] rfl) h
  · have h := if_f hc h
    cases h
    exact fx_vret X hP hD hS d_Mod_truncate_7
theorem d_Mod_fsync_0 : decode prog_12_method_49_code 0 = .ok (.aload_n 0, 1) := by decide +kernel
theorem d_Mod_fsync_1 : decode prog_12_method_49_code 1 = .ok (.invokevirtual 169, 3) := by decide +kernel
theorem d_Mod_fsync_4 : decode prog_12_method_49_code 4 = .ok (.ifCond .eq 5, 3) := by decide +kernel
theorem d_Mod_fsync_7 : decode prog_12_method_49_code 7 = .ok (.iconst 0, 1) := by decide +kernel
theorem d_Mod_fsync_8 : decode prog_12_method_49_code 8 = .ok (.ireturn, 1) := by decide +kernel
theorem d_Mod_fsync_9 : decode prog_12_method_49_code 9 = .ok (.aload_n 0, 1) := by decide +kernel
theorem d_Mod_fsync_10 : decode prog_12_method_49_code 10 = .ok (.aload_n 0, 1) := by decide +kernel
theorem d_Mod_fsync_11 : decode prog_12_method_49_code 11 = .ok (.iload_n 1, 1) := by decide +kernel
theorem d_Mod_fsync_12 : decode prog_12_method_49_code 12 = .ok (.iconst 1, 1) := by decide +kernel
theorem d_Mod_fsync_13 : decode prog_12_method_49_code 13 = .ok (.invokevirtual 172, 3) := by decide +kernel
theorem d_Mod_fsync_16 : decode prog_12_method_49_code 16 = .ok (.ifCond .ne 7, 3) := by decide +kernel
theorem d_Mod_fsync_19 : decode prog_12_method_49_code 19 = .ok (.iconst 1, 1) := by decide +kernel
theorem d_Mod_fsync_20 : decode prog_12_method_49_code 20 = .ok (.goto 4, 3) := by decide +kernel
theorem d_Mod_fsync_23 : decode prog_12_method_49_code 23 = .ok (.iconst 0, 1) := by decide +kernel
theorem d_Mod_fsync_24 : decode prog_12_method_49_code 24 = .ok (.iconst 0, 1) := by decide +kernel
theorem d_Mod_fsync_25 : decode prog_12_method_49_code 25 = .ok (.invokevirtual 148, 3) := by decide +kernel
theorem d_Mod_fsync_28 : decode prog_12_method_49_code 28 = .ok (.ifCond .ne 11, 3) := by decide +kernel
theorem d_Mod_fsync_31 : decode prog_12_method_49_code 31 = .ok (.aload_n 0, 1) := by decide +kernel
theorem d_Mod_fsync_32 : decode prog_12_method_49_code 32 = .ok (.iconst 1, 1) := by decide +kernel
theorem d_Mod_fsync_33 : decode prog_12_method_49_code 33 = .ok (.invokevirtual 188, 3) := by decide +kernel
theorem d_Mod_fsync_36 : decode prog_12_method_49_code 36 = .ok (.ifCond .eq 5, 3) := by decide +kernel
theorem d_Mod_fsync_39 : decode prog_12_method_49_code 39 = .ok (.iconst 0, 1) := by decide +kernel
theorem d_Mod_fsync_40 : decode prog_12_method_49_code 40 = .ok (.ireturn, 1) := by decide +kernel
theorem d_Mod_fsync_41 : decode prog_12_method_49_code 41 = .ok (.aload_n 0, 1) := by decide +kernel
theorem d_Mod_fsync_42 : decode prog_12_method_49_code 42 = .ok (.getfield 20, 3) := by decide +kernel
theorem d_Mod_fsync_45 : decode prog_12_method_49_code 45 = .ok (.sipush 251, 3) := by decide +kernel
theorem d_Mod_fsync_48 : decode prog_12_method_49_code 48 = .ok (.iload_n 1, 1) := by decide +kernel
theorem d_Mod_fsync_49 : decode prog_12_method_49_code 49 = .ok (.iadd, 1) := by decide +kernel
theorem d_Mod_fsync_50 : decode prog_12_method_49_code 50 = .ok (.iaload, 1) := by decide +kernel
theorem d_Mod_fsync_51 : decode prog_12_method_49_code 51 = .ok (.iconst 1, 1) := by decide +kernel
theorem d_Mod_fsync_52 : decode prog_12_method_49_code 52 = .ok (.if_icmp .ne 42, 3) := by decide +kernel
theorem d_Mod_fsync_55 : decode prog_12_method_49_code 55 = .ok (.aload_n 0, 1) := by decide +kernel
theorem d_Mod_fsync_56 : decode prog_12_method_49_code 56 = .ok (.getfield 37, 3) := by decide +kernel
theorem d_Mod_fsync_59 : decode prog_12_method_49_code 59 = .ok (.iload_n 1, 1) := by decide +kernel
theorem d_Mod_fsync_60 : decode prog_12_method_49_code 60 = .ok (.baload, 1) := by decide +kernel
theorem d_Mod_fsync_61 : decode prog_12_method_49_code 61 = .ok (.ifCond .ne 33, 3) := by decide +kernel
theorem d_Mod_fsync_64 : decode prog_12_method_49_code 64 = .ok (.aload_n 0, 1) := by decide +kernel
theorem d_Mod_fsync_65 : decode prog_12_method_49_code 65 = .ok (.invokevirtual 111, 3) := by decide +kernel
theorem d_Mod_fsync_68 : decode prog_12_method_49_code 68 = .ok (.ifCond .eq 10, 3) := by decide +kernel
theorem d_Mod_fsync_71 : decode prog_12_method_49_code 71 = .ok (.aload_n 0, 1) := by decide +kernel
theorem d_Mod_fsync_72 : decode prog_12_method_49_code 72 = .ok (.iconst 3, 1) := by decide +kernel
theorem d_Mod_fsync_73 : decode prog_12_method_49_code 73 = .ok (.putfield 76, 3) := by decide +kernel
theorem d_Mod_fsync_76 : decode prog_12_method_49_code 76 = .ok (.iconst 0, 1) := by decide +kernel
theorem d_Mod_fsync_77 : decode prog_12_method_49_code 77 = .ok (.ireturn, 1) := by decide +kernel
theorem d_Mod_fsync_78 : decode prog_12_method_49_code 78 = .ok (.aload_n 0, 1) := by decide +kernel
theorem d_Mod_fsync_79 : decode prog_12_method_49_code 79 = .ok (.iload_n 1, 1) := by decide +kernel
theorem d_Mod_fsync_80 : decode prog_12_method_49_code 80 = .ok (.iconst 0, 1) := by decide +kernel
theorem d_Mod_fsync_81 : decode prog_12_method_49_code 81 = .ok (.iconst 2, 1) := by decide +kernel
theorem d_Mod_fsync_82 : decode prog_12_method_49_code 82 = .ok (.invokevirtual 115, 3) := by decide +kernel
theorem d_Mod_fsync_85 : decode prog_12_method_49_code 85 = .ok (.aload_n 0, 1) := by decide +kernel
theorem d_Mod_fsync_86 : decode prog_12_method_49_code 86 = .ok (.getfield 34, 3) := by decide +kernel
theorem d_Mod_fsync_89 : decode prog_12_method_49_code 89 = .ok (.iload_n 1, 1) := by decide +kernel
theorem d_Mod_fsync_90 : decode prog_12_method_49_code 90 = .ok (.iconst 1, 1) := by decide +kernel
theorem d_Mod_fsync_91 : decode prog_12_method_49_code 91 = .ok (.bastore, 1) := by decide +kernel
theorem d_Mod_fsync_92 : decode prog_12_method_49_code 92 = .ok (.iconst 0, 1) := by decide +kernel
theorem d_Mod_fsync_93 : decode prog_12_method_49_code 93 = .ok (.ireturn, 1) := by decide +kernel
theorem d_Mod_fsync_94 : decode prog_12_method_49_code 94 = .ok (.aload_n 0, 1) := by decide +kernel
theorem d_Mod_fsync_95 : decode prog_12_method_49_code 95 = .ok (.invokevirtual 141, 3) := by decide +kernel
theorem d_Mod_fsync_98 : decode prog_12_method_49_code 98 = .ok (.ifCond .ne 8, 3) := by decide +kernel
theorem d_Mod_fsync_101 : decode prog_12_method_49_code 101 = .ok (.aload_n 0, 1) := by decide +kernel
theorem d_Mod_fsync_102 : decode prog_12_method_49_code 102 = .ok (.iconst 3, 1) := by decide +kernel
theorem d_Mod_fsync_103 : decode prog_12_method_49_code 103 = .ok (.putfield 76, 3) := by decide +kernel
theorem d_Mod_fsync_106 : decode prog_12_method_49_code 106 = .ok (.aload_n 0, 1) := by decide +kernel
theorem d_Mod_fsync_107 : decode prog_12_method_49_code 107 = .ok (.getfield 76, 3) := by decide +kernel
theorem d_Mod_fsync_110 : decode prog_12_method_49_code 110 = .ok (.ifCond .le 7, 3) := by decide +kernel
theorem d_Mod_fsync_113 : decode prog_12_method_49_code 113 = .ok (.iconst 0, 1) := by decide +kernel
theorem d_Mod_fsync_114 : decode prog_12_method_49_code 114 = .ok (.goto 4, 3) := by decide +kernel
theorem d_Mod_fsync_117 : decode prog_12_method_49_code 117 = .ok (.iconst 1, 1) := by decide +kernel
theorem d_Mod_fsync_118 : decode prog_12_method_49_code 118 = .ok (.ireturn, 1) := by decide +kernel
set_option maxHeartbeats 4000000 in
set_option maxRecDepth 100000 in
theorem v_Mod_fsync_94 {p : Program} {l : Launch} {e : Env} {s : State} {m : MethodId} {args : Array Value} {below : List Frame} {meth : Method} {c : Code} {D : va_G} {ad : Nat → Nat} {ca : Nat → ClassId} {A : Nat → Prop} {FU : Nat} {q : Int32 × St} (X : FX p s m meth c prog_12_method_49_code 2 (some .int) "FlashFilesModel" D (tyM ca) A)  {g : St} {H : Heap} {locs : List Loc} {ls : Array Slot} (hP : va_P D cls (wM ad ca g) H) (hD : va_D A (wM ad ca g)) (hS : va_S A s.heap H locs) (hl : lv_has ls 2 [(0, .ref (ad 0))]) (h : Mod_fsync_b94 FU g = some q) : W p l e (rmN 6) s m args below meth c H locs 0 0 (MQ below (fxQi D (tyM ca) A (wM ad ca q.2) q.1) args s 0 0 A) (F0 m 94 ls []) := by
  have hx := X.1
  have hb := X.2.1
  unfold Mod_fsync_b94 at h
  refine lv_aload_n hx hb d_Mod_fsync_94 rfl (lv_at hl 0 rfl) ?_
  obtain ⟨p1, e1, h⟩ := bd_some h
  refine fx_i X (fx_runV (As := []) X (m_Mod_checkpoint e1 _) hP hD kv_Mod_141 ⟨Nat.le_of_ble_eq_true rfl, Nat.le_of_ble_eq_true rfl⟩ 0 rfl rfl rfl hl.1 rfl (Nat.le_of_ble_eq_true rfl) d_Mod_fsync_95) hD hS (fun H locs hP hD hS => ?_)
  refine lv_if_ne (tgt := 106) hx hb d_Mod_fsync_98 (by decide) (fun hc => ?_) (fun hc => ?_)
  · have h := if_f hc h
    refine lv_aload_n hx hb d_Mod_fsync_106 rfl (lv_at hl 0 rfl) ?_
    refine gM_mod_thrown X hP d_Mod_fsync_107 ?_
    refine lv_if_le (tgt := 117) hx hb d_Mod_fsync_110 (by decide) (fun hc => ?_) (fun hc => ?_)
    · have h := if_t hc h
      refine lv_iconst (v := 1) hx hb d_Mod_fsync_117 (by decide) ?_
      cases h
      exact fx_iret X hP hD hS d_Mod_fsync_118
    · have h := if_f hc h
      refine lv_iconst (v := 0) hx hb d_Mod_fsync_113 (by decide) ?_
      refine lv_goto (tgt := 118) hx hb d_Mod_fsync_114 (by decide) ?_
      cases h
      exact fx_iret X hP hD hS d_Mod_fsync_118
  · have h := if_t hc h
    refine lv_aload_n hx hb d_Mod_fsync_101 rfl (lv_at hl 0 rfl) ?_
    refine lv_iconst (v := 3) hx hb d_Mod_fsync_102 (by decide) ?_
    obtain ⟨g2, e1, h⟩ := nx_some h
    refine uM_mod_thrown X hP hD hS e1 d_Mod_fsync_103 (fun H locs hP hD hS => ?_)
    refine lv_aload_n hx hb d_Mod_fsync_106 rfl (lv_at hl 0 rfl) ?_
    refine gM_mod_thrown X hP d_Mod_fsync_107 ?_
    refine lv_if_le (tgt := 117) hx hb d_Mod_fsync_110 (by decide) (fun hc => ?_) (fun hc => ?_)
    · have h := if_t hc h
      refine lv_iconst (v := 1) hx hb d_Mod_fsync_117 (by decide) ?_
      cases h
      exact fx_iret X hP hD hS d_Mod_fsync_118
    · have h := if_f hc h
      refine lv_iconst (v := 0) hx hb d_Mod_fsync_113 (by decide) ?_
      refine lv_goto (tgt := 118) hx hb d_Mod_fsync_114 (by decide) ?_
      cases h
      exact fx_iret X hP hD hS d_Mod_fsync_118
set_option maxHeartbeats 4000000 in
set_option maxRecDepth 100000 in
theorem v_Mod_fsync_24 {p : Program} {l : Launch} {e : Env} {s : State} {m : MethodId} {args : Array Value} {below : List Frame} {meth : Method} {c : Code} {D : va_G} {ad : Nat → Nat} {ca : Nat → ClassId} {A : Nat → Prop} {FU : Nat} {q : Int32 × St} (X : FX p s m meth c prog_12_method_49_code 2 (some .int) "FlashFilesModel" D (tyM ca) A) {y1 : Int32} {z0 : Int32} {g : St} {H : Heap} {locs : List Loc} {ls : Array Slot} (hP : va_P D cls (wM ad ca g) H) (hD : va_D A (wM ad ca g)) (hS : va_S A s.heap H locs) (hl : lv_has ls 2 [(0, .ref (ad 0)), (1, .int y1)]) (h : Mod_fsync_b24 FU y1 z0 g = some q) : W p l e (rmN 6) s m args below meth c H locs 0 0 (MQ below (fxQi D (tyM ca) A (wM ad ca q.2) q.1) args s 0 0 A) (F0 m 24 ls [.int z0, .ref (ad 0)]) := by
  have hx := X.1
  have hb := X.2.1
  unfold Mod_fsync_b24 at h
  refine lv_iconst (v := 0) hx hb d_Mod_fsync_24 (by decide) ?_
  obtain ⟨p3, e1, h⟩ := bd_some h
  refine fx_i X (fx_runV (As := [.int z0, .int (0 : Int32)]) X (m_Mod_throwing e1 _) hP hD kv_Mod_148 ⟨Nat.le_of_ble_eq_true rfl, Nat.le_of_ble_eq_true rfl⟩ 0 rfl rfl rfl hl.1 rfl (Nat.le_of_ble_eq_true rfl) d_Mod_fsync_25) hD hS (fun H locs hP hD hS => ?_)
  refine lv_if_ne (tgt := 39) hx hb d_Mod_fsync_28 (by decide) (fun hc => ?_) (fun hc => ?_)
  · have h := if_f hc h
    refine lv_iconst (v := 0) hx hb d_Mod_fsync_39 (by decide) ?_
    cases h
    exact fx_iret X hP hD hS d_Mod_fsync_40
  · have h := if_t hc h
    refine lv_aload_n hx hb d_Mod_fsync_31 rfl (lv_at hl 0 rfl) ?_
    refine lv_iconst (v := 1) hx hb d_Mod_fsync_32 (by decide) ?_
    obtain ⟨p4, e1, h⟩ := bd_some h
    refine fx_i X (fx_runV (As := [.int (1 : Int32)]) X (m_Mod_stops e1 _) hP hD kv_Mod_188 ⟨Nat.le_of_ble_eq_true rfl, Nat.le_of_ble_eq_true rfl⟩ 0 rfl rfl rfl hl.1 rfl (Nat.le_of_ble_eq_true rfl) d_Mod_fsync_33) hD hS (fun H locs hP hD hS => ?_)
    refine lv_if_eq (tgt := 41) hx hb d_Mod_fsync_36 (by decide) (fun hc => ?_) (fun hc => ?_)
    · have h := if_t hc h
      refine lv_aload_n hx hb d_Mod_fsync_41 rfl (lv_at hl 0 rfl) ?_
      refine gM_mod_kind X hP d_Mod_fsync_42 ?_
      refine lv_sipush (v := 251) hx hb d_Mod_fsync_45 (by decide) ?_
      refine lv_iload_n hx hb d_Mod_fsync_48 rfl (lv_at hl 1 rfl) ?_
      refine lv_iadd hx hb d_Mod_fsync_49 ?_
      obtain ⟨v5, e1, h⟩ := bd_some h
      refine rM_2 X hP e1 d_Mod_fsync_50 ?_
      refine lv_iconst (v := 1) hx hb d_Mod_fsync_51 (by decide) ?_
      refine lv_icmp_ne (tgt := 94) hx hb d_Mod_fsync_52 (by decide) (fun hc => ?_) (fun hc => ?_)
      · have h := if_f hc h
        exact v_Mod_fsync_94 X  hP hD hS (lv_sub hl [0] rfl) h
      · have h := if_t hc h
        refine lv_aload_n hx hb d_Mod_fsync_55 rfl (lv_at hl 0 rfl) ?_
        refine gM_mod_renamed X hP d_Mod_fsync_56 ?_
        refine lv_iload_n hx hb d_Mod_fsync_59 rfl (lv_at hl 1 rfl) ?_
        obtain ⟨v6, e1, h⟩ := bd_some h
        refine rM_7 X hP e1 d_Mod_fsync_60 ?_
        refine lv_if_ne (tgt := 94) hx hb d_Mod_fsync_61 (by decide) (fun hc => ?_) (fun hc => ?_)
        · have h := if_f hc h
          exact v_Mod_fsync_94 X  hP hD hS (lv_sub hl [0] rfl) h
        · have h := if_t hc h
          refine lv_aload_n hx hb d_Mod_fsync_64 rfl (lv_at hl 0 rfl) ?_
          obtain ⟨p7, e1, h⟩ := bd_some h
          refine fx_i X (fx_runV (As := []) X (m_Mod_isCut e1 _) hP hD kv_Mod_111 ⟨Nat.le_of_ble_eq_true rfl, Nat.le_of_ble_eq_true rfl⟩ 0 rfl rfl rfl hl.1 rfl (Nat.le_of_ble_eq_true rfl) d_Mod_fsync_65) hD hS (fun H locs hP hD hS => ?_)
          refine lv_if_eq (tgt := 78) hx hb d_Mod_fsync_68 (by decide) (fun hc => ?_) (fun hc => ?_)
          · have h := if_t hc h
            refine lv_aload_n hx hb d_Mod_fsync_78 rfl (lv_at hl 0 rfl) ?_
            refine lv_iload_n hx hb d_Mod_fsync_79 rfl (lv_at hl 1 rfl) ?_
            refine lv_iconst (v := 0) hx hb d_Mod_fsync_80 (by decide) ?_
            refine lv_iconst (v := 2) hx hb d_Mod_fsync_81 (by decide) ?_
            obtain ⟨p8, e1, h⟩ := bd_some h
            refine fx_v X (fx_runV (As := [.int y1, .int (0 : Int32), .int (2 : Int32)]) X (m_Mod_copyFile e1 _) hP hD kv_Mod_115 ⟨Nat.le_of_ble_eq_true rfl, Nat.le_of_ble_eq_true rfl⟩ 0 rfl rfl rfl hl.1 rfl (Nat.le_of_ble_eq_true rfl) d_Mod_fsync_82) hD hS (fun H locs hP hD hS => ?_)
            refine lv_aload_n hx hb d_Mod_fsync_85 rfl (lv_at hl 0 rfl) ?_
            refine gM_mod_synced X hP d_Mod_fsync_86 ?_
            refine lv_iload_n hx hb d_Mod_fsync_89 rfl (lv_at hl 1 rfl) ?_
            refine lv_iconst (v := 1) hx hb d_Mod_fsync_90 (by decide) ?_
            obtain ⟨g9, e1, h⟩ := bd_some h
            refine sM_6 X hP hD hS e1 d_Mod_fsync_91 (fun H locs hP hD hS => ?_)
            refine lv_iconst (v := 0) hx hb d_Mod_fsync_92 (by decide) ?_
            cases h
            exact fx_iret X hP hD hS d_Mod_fsync_93
          · have h := if_f hc h
            refine lv_aload_n hx hb d_Mod_fsync_71 rfl (lv_at hl 0 rfl) ?_
            refine lv_iconst (v := 3) hx hb d_Mod_fsync_72 (by decide) ?_
            obtain ⟨g10, e1, h⟩ := nx_some h
            refine uM_mod_thrown X hP hD hS e1 d_Mod_fsync_73 (fun H locs hP hD hS => ?_)
            refine lv_iconst (v := 0) hx hb d_Mod_fsync_76 (by decide) ?_
            cases h
            exact fx_iret X hP hD hS d_Mod_fsync_77
    · have h := if_f hc h
      refine lv_iconst (v := 0) hx hb d_Mod_fsync_39 (by decide) ?_
      cases h
      exact fx_iret X hP hD hS d_Mod_fsync_40
set_option maxHeartbeats 4000000 in
set_option maxRecDepth 100000 in
theorem m_Mod_fsync {l : Launch} {D : va_G} {ad : Nat → Nat} {ca : Nat → ClassId} {FU : Nat} {x1 : Int32} {g : St} {q : Int32 × St} (h : Mod_fsync FU x1 g = some q) : CI l ⟨"FlashFilesModel", "fsync", "(I)I"⟩ prog_12_method_49_code 2 6 (some .int) D (tyM ca) (wM ad ca g) [.ref (ad 0), .int x1] q.1 (wM ad ca q.2) := by
  intro sz
  refine Met.fx (Qc := fun A => fxQi D (tyM ca) A (wM ad ca q.2) q.1) (by decide) (Nat.le_of_ble_eq_true rfl) ?_
  intro p e s m below meth c A ls X hP hD hl
  have hl : lv_has ls 2 [(0, .ref (ad 0)), (1, .int x1)] := hl
  have hS : va_S A s.heap s.heap [] := va_S.rf
  have hx := X.1
  have hb := X.2.1
  unfold Mod_fsync at h
  refine lv_aload_n hx hb d_Mod_fsync_0 rfl (lv_at hl 0 rfl) ?_
  obtain ⟨p11, e1, h⟩ := bd_some h
  refine fx_i X (fx_runV (As := []) X (m_Mod_isOff e1 _) hP hD kv_Mod_169 ⟨Nat.le_of_ble_eq_true rfl, Nat.le_of_ble_eq_true rfl⟩ 0 rfl rfl rfl hl.1 rfl (Nat.le_of_ble_eq_true rfl) d_Mod_fsync_1) hD hS (fun H locs hP hD hS => ?_)
  refine lv_if_eq (tgt := 9) hx hb d_Mod_fsync_4 (by decide) (fun hc => ?_) (fun hc => ?_)
  · have h := if_t hc h
    refine lv_aload_n hx hb d_Mod_fsync_9 rfl (lv_at hl 0 rfl) ?_
    refine lv_aload_n hx hb d_Mod_fsync_10 rfl (lv_at hl 0 rfl) ?_
    refine lv_iload_n hx hb d_Mod_fsync_11 rfl (lv_at hl 1 rfl) ?_
    refine lv_iconst (v := 1) hx hb d_Mod_fsync_12 (by decide) ?_
    obtain ⟨v12, e1, h⟩ := bd_some h
    refine fx_i X (fx_runV (As := [.int x1, .int (1 : Int32)]) X (m_Mod_is e1 _) hP hD kv_Mod_172 ⟨Nat.le_of_ble_eq_true rfl, Nat.le_of_ble_eq_true rfl⟩ 0 rfl rfl rfl hl.1 rfl (Nat.le_of_ble_eq_true rfl) d_Mod_fsync_13) hD hS (fun H locs hP hD hS => ?_)
    refine lv_if_ne (tgt := 23) hx hb d_Mod_fsync_16 (by decide) (fun hc => ?_) (fun hc => ?_)
    · have h := if_f hc h
      refine lv_iconst (v := 0) hx hb d_Mod_fsync_23 (by decide) ?_
      exact v_Mod_fsync_24 X  hP hD hS (lv_sub hl [0, 1] rfl) h
    · have h := if_t hc h
      refine lv_iconst (v := 1) hx hb d_Mod_fsync_19 (by decide) ?_
      refine lv_goto (tgt := 24) hx hb d_Mod_fsync_20 (by decide) ?_
      exact v_Mod_fsync_24 X  hP hD hS (lv_sub hl [0, 1] rfl) h
  · have h := if_f hc h
    refine lv_iconst (v := 0) hx hb d_Mod_fsync_7 (by decide) ?_
    cases h
    exact fx_iret X hP hD hS d_Mod_fsync_8
theorem d_Mod_sync_0 : decode prog_12_method_50_code 0 = .ok (.aload_n 0, 1) := by decide +kernel
theorem d_Mod_sync_1 : decode prog_12_method_50_code 1 = .ok (.aload_n 0, 1) := by decide +kernel
theorem d_Mod_sync_2 : decode prog_12_method_50_code 2 = .ok (.getfield 107, 3) := by decide +kernel
theorem d_Mod_sync_5 : decode prog_12_method_50_code 5 = .ok (.ifCond .ne 7, 3) := by decide +kernel
theorem d_Mod_sync_8 : decode prog_12_method_50_code 8 = .ok (.iconst 1, 1) := by decide +kernel
theorem d_Mod_sync_9 : decode prog_12_method_50_code 9 = .ok (.goto 4, 3) := by decide +kernel
theorem d_Mod_sync_12 : decode prog_12_method_50_code 12 = .ok (.iconst 0, 1) := by decide +kernel
theorem d_Mod_sync_13 : decode prog_12_method_50_code 13 = .ok (.iconst 0, 1) := by decide +kernel
theorem d_Mod_sync_14 : decode prog_12_method_50_code 14 = .ok (.invokevirtual 148, 3) := by decide +kernel
theorem d_Mod_sync_17 : decode prog_12_method_50_code 17 = .ok (.ifCond .eq 5, 3) := by decide +kernel
theorem d_Mod_sync_20 : decode prog_12_method_50_code 20 = .ok (.iconst 0, 1) := by decide +kernel
theorem d_Mod_sync_21 : decode prog_12_method_50_code 21 = .ok (.ireturn, 1) := by decide +kernel
theorem d_Mod_sync_22 : decode prog_12_method_50_code 22 = .ok (.aload_n 0, 1) := by decide +kernel
theorem d_Mod_sync_23 : decode prog_12_method_50_code 23 = .ok (.iconst 0, 1) := by decide +kernel
theorem d_Mod_sync_24 : decode prog_12_method_50_code 24 = .ok (.aload_n 0, 1) := by decide +kernel
theorem d_Mod_sync_25 : decode prog_12_method_50_code 25 = .ok (.invokevirtual 141, 3) := by decide +kernel
theorem d_Mod_sync_28 : decode prog_12_method_50_code 28 = .ok (.ifCond .ne 7, 3) := by decide +kernel
theorem d_Mod_sync_31 : decode prog_12_method_50_code 31 = .ok (.iconst 1, 1) := by decide +kernel
theorem d_Mod_sync_32 : decode prog_12_method_50_code 32 = .ok (.goto 4, 3) := by decide +kernel
theorem d_Mod_sync_35 : decode prog_12_method_50_code 35 = .ok (.iconst 0, 1) := by decide +kernel
theorem d_Mod_sync_36 : decode prog_12_method_50_code 36 = .ok (.invokevirtual 148, 3) := by decide +kernel
theorem d_Mod_sync_39 : decode prog_12_method_50_code 39 = .ok (.ifCond .eq 5, 3) := by decide +kernel
theorem d_Mod_sync_42 : decode prog_12_method_50_code 42 = .ok (.iconst 0, 1) := by decide +kernel
theorem d_Mod_sync_43 : decode prog_12_method_50_code 43 = .ok (.ireturn, 1) := by decide +kernel
theorem d_Mod_sync_44 : decode prog_12_method_50_code 44 = .ok (.aload_n 0, 1) := by decide +kernel
theorem d_Mod_sync_45 : decode prog_12_method_50_code 45 = .ok (.getfield 135, 3) := by decide +kernel
theorem d_Mod_sync_48 : decode prog_12_method_50_code 48 = .ok (.ireturn, 1) := by decide +kernel
set_option maxHeartbeats 4000000 in
set_option maxRecDepth 100000 in
theorem v_Mod_sync_36 {p : Program} {l : Launch} {e : Env} {s : State} {m : MethodId} {args : Array Value} {below : List Frame} {meth : Method} {c : Code} {D : va_G} {ad : Nat → Nat} {ca : Nat → ClassId} {A : Nat → Prop} {FU : Nat} {q : Int32 × St} (X : FX p s m meth c prog_12_method_50_code 1 (some .int) "FlashFilesModel" D (tyM ca) A) {z0 : Int32} {z1 : Int32} {g : St} {H : Heap} {locs : List Loc} {ls : Array Slot} (hP : va_P D cls (wM ad ca g) H) (hD : va_D A (wM ad ca g)) (hS : va_S A s.heap H locs) (hl : lv_has ls 1 [(0, .ref (ad 0))]) (h : Mod_sync_b36 FU z0 z1 g = some q) : W p l e (rmN 5) s m args below meth c H locs 0 0 (MQ below (fxQi D (tyM ca) A (wM ad ca q.2) q.1) args s 0 0 A) (F0 m 36 ls [.int z0, .int z1, .ref (ad 0)]) := by
  have hx := X.1
  have hb := X.2.1
  unfold Mod_sync_b36 at h
  obtain ⟨p1, e1, h⟩ := bd_some h
  refine fx_i X (fx_runV (As := [.int z1, .int z0]) X (m_Mod_throwing e1 _) hP hD kv_Mod_148 ⟨Nat.le_of_ble_eq_true rfl, Nat.le_of_ble_eq_true rfl⟩ 0 rfl rfl rfl hl.1 rfl (Nat.le_of_ble_eq_true rfl) d_Mod_sync_36) hD hS (fun H locs hP hD hS => ?_)
  refine lv_if_eq (tgt := 44) hx hb d_Mod_sync_39 (by decide) (fun hc => ?_) (fun hc => ?_)
  · have h := if_t hc h
    refine lv_aload_n hx hb d_Mod_sync_44 rfl (lv_at hl 0 rfl) ?_
    refine gM_mod_checkpoints X hP d_Mod_sync_45 ?_
    cases h
    exact fx_iret X hP hD hS d_Mod_sync_48
  · have h := if_f hc h
    refine lv_iconst (v := 0) hx hb d_Mod_sync_42 (by decide) ?_
    cases h
    exact fx_iret X hP hD hS d_Mod_sync_43
set_option maxHeartbeats 4000000 in
set_option maxRecDepth 100000 in
theorem v_Mod_sync_13 {p : Program} {l : Launch} {e : Env} {s : State} {m : MethodId} {args : Array Value} {below : List Frame} {meth : Method} {c : Code} {D : va_G} {ad : Nat → Nat} {ca : Nat → ClassId} {A : Nat → Prop} {FU : Nat} {q : Int32 × St} (X : FX p s m meth c prog_12_method_50_code 1 (some .int) "FlashFilesModel" D (tyM ca) A) {z0 : Int32} {g : St} {H : Heap} {locs : List Loc} {ls : Array Slot} (hP : va_P D cls (wM ad ca g) H) (hD : va_D A (wM ad ca g)) (hS : va_S A s.heap H locs) (hl : lv_has ls 1 [(0, .ref (ad 0))]) (h : Mod_sync_b13 FU z0 g = some q) : W p l e (rmN 5) s m args below meth c H locs 0 0 (MQ below (fxQi D (tyM ca) A (wM ad ca q.2) q.1) args s 0 0 A) (F0 m 13 ls [.int z0, .ref (ad 0)]) := by
  have hx := X.1
  have hb := X.2.1
  unfold Mod_sync_b13 at h
  refine lv_iconst (v := 0) hx hb d_Mod_sync_13 (by decide) ?_
  obtain ⟨p2, e1, h⟩ := bd_some h
  refine fx_i X (fx_runV (As := [.int z0, .int (0 : Int32)]) X (m_Mod_throwing e1 _) hP hD kv_Mod_148 ⟨Nat.le_of_ble_eq_true rfl, Nat.le_of_ble_eq_true rfl⟩ 0 rfl rfl rfl hl.1 rfl (Nat.le_of_ble_eq_true rfl) d_Mod_sync_14) hD hS (fun H locs hP hD hS => ?_)
  refine lv_if_eq (tgt := 22) hx hb d_Mod_sync_17 (by decide) (fun hc => ?_) (fun hc => ?_)
  · have h := if_t hc h
    refine lv_aload_n hx hb d_Mod_sync_22 rfl (lv_at hl 0 rfl) ?_
    refine lv_iconst (v := 0) hx hb d_Mod_sync_23 (by decide) ?_
    refine lv_aload_n hx hb d_Mod_sync_24 rfl (lv_at hl 0 rfl) ?_
    obtain ⟨p3, e1, h⟩ := bd_some h
    refine fx_i X (fx_runV (As := []) X (m_Mod_checkpoint e1 _) hP hD kv_Mod_141 ⟨Nat.le_of_ble_eq_true rfl, Nat.le_of_ble_eq_true rfl⟩ 0 rfl rfl rfl hl.1 rfl (Nat.le_of_ble_eq_true rfl) d_Mod_sync_25) hD hS (fun H locs hP hD hS => ?_)
    refine lv_if_ne (tgt := 35) hx hb d_Mod_sync_28 (by decide) (fun hc => ?_) (fun hc => ?_)
    · have h := if_f hc h
      refine lv_iconst (v := 0) hx hb d_Mod_sync_35 (by decide) ?_
      exact v_Mod_sync_36 X  hP hD hS (lv_sub hl [0] rfl) h
    · have h := if_t hc h
      refine lv_iconst (v := 1) hx hb d_Mod_sync_31 (by decide) ?_
      refine lv_goto (tgt := 36) hx hb d_Mod_sync_32 (by decide) ?_
      exact v_Mod_sync_36 X  hP hD hS (lv_sub hl [0] rfl) h
  · have h := if_f hc h
    refine lv_iconst (v := 0) hx hb d_Mod_sync_20 (by decide) ?_
    cases h
    exact fx_iret X hP hD hS d_Mod_sync_21
set_option maxHeartbeats 4000000 in
set_option maxRecDepth 100000 in
theorem m_Mod_sync {l : Launch} {D : va_G} {ad : Nat → Nat} {ca : Nat → ClassId} {FU : Nat} {g : St} {q : Int32 × St} (h : Mod_sync FU  g = some q) : CI l ⟨"FlashFilesModel", "sync", "()I"⟩ prog_12_method_50_code 1 5 (some .int) D (tyM ca) (wM ad ca g) [.ref (ad 0)] q.1 (wM ad ca q.2) := by
  intro sz
  refine Met.fx (Qc := fun A => fxQi D (tyM ca) A (wM ad ca q.2) q.1) (by decide) (Nat.le_of_ble_eq_true rfl) ?_
  intro p e s m below meth c A ls X hP hD hl
  have hl : lv_has ls 1 [(0, .ref (ad 0))] := hl
  have hS : va_S A s.heap s.heap [] := va_S.rf
  have hx := X.1
  have hb := X.2.1
  unfold Mod_sync at h
  refine lv_aload_n hx hb d_Mod_sync_0 rfl (lv_at hl 0 rfl) ?_
  refine lv_aload_n hx hb d_Mod_sync_1 rfl (lv_at hl 0 rfl) ?_
  refine gM_mod_mounted X hP d_Mod_sync_2 ?_
  refine lv_if_ne (tgt := 12) hx hb d_Mod_sync_5 (by decide) (fun hc => ?_) (fun hc => ?_)
  · have h := if_f hc h
    refine lv_iconst (v := 0) hx hb d_Mod_sync_12 (by decide) ?_
    exact v_Mod_sync_13 X  hP hD hS (lv_sub hl [0] rfl) h
  · have h := if_t hc h
    refine lv_iconst (v := 1) hx hb d_Mod_sync_8 (by decide) ?_
    refine lv_goto (tgt := 13) hx hb d_Mod_sync_9 (by decide) ?_
    exact v_Mod_sync_13 X  hP hD hS (lv_sub hl [0] rfl) h
theorem d_Mod_look_0 : decode prog_12_method_51_code 0 = .ok (.aload_n 0, 1) := by decide +kernel
theorem d_Mod_look_1 : decode prog_12_method_51_code 1 = .ok (.invokevirtual 169, 3) := by decide +kernel
theorem d_Mod_look_4 : decode prog_12_method_51_code 4 = .ok (.ifCond .eq 5, 3) := by decide +kernel
theorem d_Mod_look_7 : decode prog_12_method_51_code 7 = .ok (.iconst 0, 1) := by decide +kernel
theorem d_Mod_look_8 : decode prog_12_method_51_code 8 = .ok (.ireturn, 1) := by decide +kernel
theorem d_Mod_look_9 : decode prog_12_method_51_code 9 = .ok (.aload_n 0, 1) := by decide +kernel
theorem d_Mod_look_10 : decode prog_12_method_51_code 10 = .ok (.iload_n 2, 1) := by decide +kernel
theorem d_Mod_look_11 : decode prog_12_method_51_code 11 = .ok (.iconst 0, 1) := by decide +kernel
theorem d_Mod_look_12 : decode prog_12_method_51_code 12 = .ok (.iconst 4, 1) := by decide +kernel
theorem d_Mod_look_13 : decode prog_12_method_51_code 13 = .ok (.invokestatic 144, 3) := by decide +kernel
theorem d_Mod_look_16 : decode prog_12_method_51_code 16 = .ok (.ifCond .ne 7, 3) := by decide +kernel
theorem d_Mod_look_19 : decode prog_12_method_51_code 19 = .ok (.iconst 1, 1) := by decide +kernel
theorem d_Mod_look_20 : decode prog_12_method_51_code 20 = .ok (.goto 4, 3) := by decide +kernel
theorem d_Mod_look_23 : decode prog_12_method_51_code 23 = .ok (.iconst 0, 1) := by decide +kernel
theorem d_Mod_look_24 : decode prog_12_method_51_code 24 = .ok (.iconst 0, 1) := by decide +kernel
theorem d_Mod_look_25 : decode prog_12_method_51_code 25 = .ok (.invokevirtual 148, 3) := by decide +kernel
theorem d_Mod_look_28 : decode prog_12_method_51_code 28 = .ok (.ifCond .eq 5, 3) := by decide +kernel
theorem d_Mod_look_31 : decode prog_12_method_51_code 31 = .ok (.iconst 0, 1) := by decide +kernel
theorem d_Mod_look_32 : decode prog_12_method_51_code 32 = .ok (.ireturn, 1) := by decide +kernel
theorem d_Mod_look_33 : decode prog_12_method_51_code 33 = .ok (.iload_n 1, 1) := by decide +kernel
theorem d_Mod_look_34 : decode prog_12_method_51_code 34 = .ok (.invokestatic 161, 3) := by decide +kernel
theorem d_Mod_look_37 : decode prog_12_method_51_code 37 = .ok (.ifCond .eq 12, 3) := by decide +kernel
theorem d_Mod_look_40 : decode prog_12_method_51_code 40 = .ok (.aload_n 0, 1) := by decide +kernel
theorem d_Mod_look_41 : decode prog_12_method_51_code 41 = .ok (.getfield 20, 3) := by decide +kernel
theorem d_Mod_look_44 : decode prog_12_method_51_code 44 = .ok (.iload_n 1, 1) := by decide +kernel
theorem d_Mod_look_45 : decode prog_12_method_51_code 45 = .ok (.iaload, 1) := by decide +kernel
theorem d_Mod_look_46 : decode prog_12_method_51_code 46 = .ok (.ifCond .ne 5, 3) := by decide +kernel
theorem d_Mod_look_49 : decode prog_12_method_51_code 49 = .ok (.iconst 0, 1) := by decide +kernel
theorem d_Mod_look_50 : decode prog_12_method_51_code 50 = .ok (.ireturn, 1) := by decide +kernel
theorem d_Mod_look_51 : decode prog_12_method_51_code 51 = .ok (.aload_n 0, 1) := by decide +kernel
theorem d_Mod_look_52 : decode prog_12_method_51_code 52 = .ok (.getfield 20, 3) := by decide +kernel
theorem d_Mod_look_55 : decode prog_12_method_51_code 55 = .ok (.iload_n 1, 1) := by decide +kernel
theorem d_Mod_look_56 : decode prog_12_method_51_code 56 = .ok (.iaload, 1) := by decide +kernel
theorem d_Mod_look_57 : decode prog_12_method_51_code 57 = .ok (.iconst 1, 1) := by decide +kernel
theorem d_Mod_look_58 : decode prog_12_method_51_code 58 = .ok (.if_icmp .ne 7, 3) := by decide +kernel
theorem d_Mod_look_61 : decode prog_12_method_51_code 61 = .ok (.iconst 1, 1) := by decide +kernel
theorem d_Mod_look_62 : decode prog_12_method_51_code 62 = .ok (.goto 4, 3) := by decide +kernel
theorem d_Mod_look_65 : decode prog_12_method_51_code 65 = .ok (.iconst 0, 1) := by decide +kernel
theorem d_Mod_look_66 : decode prog_12_method_51_code 66 = .ok (.istore_n 3, 1) := by decide +kernel
theorem d_Mod_look_67 : decode prog_12_method_51_code 67 = .ok (.iload_n 2, 1) := by decide +kernel
theorem d_Mod_look_68 : decode prog_12_method_51_code 68 = .ok (.ifCond .ne 10, 3) := by decide +kernel
theorem d_Mod_look_71 : decode prog_12_method_51_code 71 = .ok (.aload_n 0, 1) := by decide +kernel
theorem d_Mod_look_72 : decode prog_12_method_51_code 72 = .ok (.getfield 20, 3) := by decide +kernel
theorem d_Mod_look_75 : decode prog_12_method_51_code 75 = .ok (.iload_n 1, 1) := by decide +kernel
theorem d_Mod_look_76 : decode prog_12_method_51_code 76 = .ok (.iaload, 1) := by decide +kernel
theorem d_Mod_look_77 : decode prog_12_method_51_code 77 = .ok (.ireturn, 1) := by decide +kernel
theorem d_Mod_look_78 : decode prog_12_method_51_code 78 = .ok (.iload_n 2, 1) := by decide +kernel
theorem d_Mod_look_79 : decode prog_12_method_51_code 79 = .ok (.iconst 1, 1) := by decide +kernel
theorem d_Mod_look_80 : decode prog_12_method_51_code 80 = .ok (.if_icmp .ne 22, 3) := by decide +kernel
theorem d_Mod_look_83 : decode prog_12_method_51_code 83 = .ok (.iload_n 3, 1) := by decide +kernel
theorem d_Mod_look_84 : decode prog_12_method_51_code 84 = .ok (.ifCond .eq 12, 3) := by decide +kernel
theorem d_Mod_look_87 : decode prog_12_method_51_code 87 = .ok (.aload_n 0, 1) := by decide +kernel
theorem d_Mod_look_88 : decode prog_12_method_51_code 88 = .ok (.getfield 24, 3) := by decide +kernel
theorem d_Mod_look_91 : decode prog_12_method_51_code 91 = .ok (.iload_n 1, 1) := by decide +kernel
theorem d_Mod_look_92 : decode prog_12_method_51_code 92 = .ok (.iaload, 1) := by decide +kernel
theorem d_Mod_look_93 : decode prog_12_method_51_code 93 = .ok (.goto 8, 3) := by decide +kernel
theorem d_Mod_look_96 : decode prog_12_method_51_code 96 = .ok (.aload_n 0, 1) := by decide +kernel
theorem d_Mod_look_97 : decode prog_12_method_51_code 97 = .ok (.iload_n 1, 1) := by decide +kernel
theorem d_Mod_look_98 : decode prog_12_method_51_code 98 = .ok (.invokevirtual 97, 3) := by decide +kernel
theorem d_Mod_look_101 : decode prog_12_method_51_code 101 = .ok (.ireturn, 1) := by decide +kernel
theorem d_Mod_look_102 : decode prog_12_method_51_code 102 = .ok (.iload_n 2, 1) := by decide +kernel
theorem d_Mod_look_103 : decode prog_12_method_51_code 103 = .ok (.iconst 2, 1) := by decide +kernel
theorem d_Mod_look_104 : decode prog_12_method_51_code 104 = .ok (.if_icmp .ne 18, 3) := by decide +kernel
theorem d_Mod_look_107 : decode prog_12_method_51_code 107 = .ok (.iload_n 3, 1) := by decide +kernel
theorem d_Mod_look_108 : decode prog_12_method_51_code 108 = .ok (.ifCond .eq 12, 3) := by decide +kernel
theorem d_Mod_look_111 : decode prog_12_method_51_code 111 = .ok (.aload_n 0, 1) := by decide +kernel
theorem d_Mod_look_112 : decode prog_12_method_51_code 112 = .ok (.getfield 27, 3) := by decide +kernel
theorem d_Mod_look_115 : decode prog_12_method_51_code 115 = .ok (.iload_n 1, 1) := by decide +kernel
theorem d_Mod_look_116 : decode prog_12_method_51_code 116 = .ok (.iaload, 1) := by decide +kernel
theorem d_Mod_look_117 : decode prog_12_method_51_code 117 = .ok (.goto 4, 3) := by decide +kernel
theorem d_Mod_look_120 : decode prog_12_method_51_code 120 = .ok (.iconst 1, 1) := by decide +kernel
theorem d_Mod_look_121 : decode prog_12_method_51_code 121 = .ok (.ireturn, 1) := by decide +kernel
theorem d_Mod_look_122 : decode prog_12_method_51_code 122 = .ok (.iload_n 2, 1) := by decide +kernel
theorem d_Mod_look_123 : decode prog_12_method_51_code 123 = .ok (.iconst 3, 1) := by decide +kernel
theorem d_Mod_look_124 : decode prog_12_method_51_code 124 = .ok (.if_icmp .ne 9, 3) := by decide +kernel
theorem d_Mod_look_127 : decode prog_12_method_51_code 127 = .ok (.aload_n 0, 1) := by decide +kernel
theorem d_Mod_look_128 : decode prog_12_method_51_code 128 = .ok (.iload_n 1, 1) := by decide +kernel
theorem d_Mod_look_129 : decode prog_12_method_51_code 129 = .ok (.invokevirtual 104, 3) := by decide +kernel
theorem d_Mod_look_132 : decode prog_12_method_51_code 132 = .ok (.ireturn, 1) := by decide +kernel
theorem d_Mod_look_133 : decode prog_12_method_51_code 133 = .ok (.iload_n 3, 1) := by decide +kernel
theorem d_Mod_look_134 : decode prog_12_method_51_code 134 = .ok (.ifCond .eq 16, 3) := by decide +kernel
theorem d_Mod_look_137 : decode prog_12_method_51_code 137 = .ok (.aload_n 0, 1) := by decide +kernel
theorem d_Mod_look_138 : decode prog_12_method_51_code 138 = .ok (.getfield 30, 3) := by decide +kernel
theorem d_Mod_look_141 : decode prog_12_method_51_code 141 = .ok (.iload_n 1, 1) := by decide +kernel
theorem d_Mod_look_142 : decode prog_12_method_51_code 142 = .ok (.baload, 1) := by decide +kernel
theorem d_Mod_look_143 : decode prog_12_method_51_code 143 = .ok (.ifCond .eq 7, 3) := by decide +kernel
theorem d_Mod_look_146 : decode prog_12_method_51_code 146 = .ok (.iconst 1, 1) := by decide +kernel
theorem d_Mod_look_147 : decode prog_12_method_51_code 147 = .ok (.goto 4, 3) := by decide +kernel
theorem d_Mod_look_150 : decode prog_12_method_51_code 150 = .ok (.iconst 0, 1) := by decide +kernel
theorem d_Mod_look_151 : decode prog_12_method_51_code 151 = .ok (.ireturn, 1) := by decide +kernel
set_option maxHeartbeats 4000000 in
set_option maxRecDepth 100000 in
theorem v_Mod_look_66 {p : Program} {l : Launch} {e : Env} {s : State} {m : MethodId} {args : Array Value} {below : List Frame} {meth : Method} {c : Code} {D : va_G} {ad : Nat → Nat} {ca : Nat → ClassId} {A : Nat → Prop} {FU : Nat} {q : Int32 × St} (X : FX p s m meth c prog_12_method_51_code 4 (some .int) "FlashFilesModel" D (tyM ca) A) {y1 : Int32} {y2 : Int32} {z0 : Int32} {g : St} {H : Heap} {locs : List Loc} {ls : Array Slot} (hP : va_P D cls (wM ad ca g) H) (hD : va_D A (wM ad ca g)) (hS : va_S A s.heap H locs) (hl : lv_has ls 4 [(0, .ref (ad 0)), (1, .int y1), (2, .int y2)]) (h : Mod_look_b66 FU y1 y2 z0 g = some q) : W p l e (rmN 3) s m args below meth c H locs 0 0 (MQ below (fxQi D (tyM ca) A (wM ad ca q.2) q.1) args s 0 0 A) (F0 m 66 ls [.int z0]) := by
  have hx := X.1
  have hb := X.2.1
  unfold Mod_look_b66 at h
  refine lv_istore_n hx hb d_Mod_look_66 rfl hl (by decide) rfl (fun ls hl => ?_)
  have hl : lv_has ls 4 [(3, .int z0), (0, .ref (ad 0)), (1, .int y1), (2, .int y2)] := hl
  refine lv_iload_n hx hb d_Mod_look_67 rfl (lv_at hl 3 rfl) ?_
  refine lv_if_ne (tgt := 78) hx hb d_Mod_look_68 (by decide) (fun hc => ?_) (fun hc => ?_)
  · have h := if_f hc h
    refine lv_iload_n hx hb d_Mod_look_78 rfl (lv_at hl 3 rfl) ?_
    refine lv_iconst (v := 1) hx hb d_Mod_look_79 (by decide) ?_
    refine lv_icmp_ne (tgt := 102) hx hb d_Mod_look_80 (by decide) (fun hc => ?_) (fun hc => ?_)
    · have h := if_f hc h
      refine lv_iload_n hx hb d_Mod_look_102 rfl (lv_at hl 3 rfl) ?_
      refine lv_iconst (v := 2) hx hb d_Mod_look_103 (by decide) ?_
      refine lv_icmp_ne (tgt := 122) hx hb d_Mod_look_104 (by decide) (fun hc => ?_) (fun hc => ?_)
      · have h := if_f hc h
        refine lv_iload_n hx hb d_Mod_look_122 rfl (lv_at hl 3 rfl) ?_
        refine lv_iconst (v := 3) hx hb d_Mod_look_123 (by decide) ?_
        refine lv_icmp_ne (tgt := 133) hx hb d_Mod_look_124 (by decide) (fun hc => ?_) (fun hc => ?_)
        · have h := if_f hc h
          refine lv_iload_n hx hb d_Mod_look_133 rfl (lv_at hl 0 rfl) ?_
          refine lv_if_eq (tgt := 150) hx hb d_Mod_look_134 (by decide) (fun hc => ?_) (fun hc => ?_)
          · have h := if_t hc h
            refine lv_iconst (v := 0) hx hb d_Mod_look_150 (by decide) ?_
            cases h
            exact fx_iret X hP hD hS d_Mod_look_151
          · have h := if_f hc h
            refine lv_aload_n hx hb d_Mod_look_137 rfl (lv_at hl 1 rfl) ?_
            refine gM_mod_small X hP d_Mod_look_138 ?_
            refine lv_iload_n hx hb d_Mod_look_141 rfl (lv_at hl 2 rfl) ?_
            obtain ⟨v1, e1, h⟩ := bd_some h
            refine rM_5 X hP e1 d_Mod_look_142 ?_
            refine lv_if_eq (tgt := 150) hx hb d_Mod_look_143 (by decide) (fun hc => ?_) (fun hc => ?_)
            · have h := if_t hc h
              refine lv_iconst (v := 0) hx hb d_Mod_look_150 (by decide) ?_
              cases h
              exact fx_iret X hP hD hS d_Mod_look_151
            · have h := if_f hc h
              refine lv_iconst (v := 1) hx hb d_Mod_look_146 (by decide) ?_
              refine lv_goto (tgt := 151) hx hb d_Mod_look_147 (by decide) ?_
              cases h
              exact fx_iret X hP hD hS d_Mod_look_151
        · have h := if_t hc h
          refine lv_aload_n hx hb d_Mod_look_127 rfl (lv_at hl 1 rfl) ?_
          refine lv_iload_n hx hb d_Mod_look_128 rfl (lv_at hl 2 rfl) ?_
          obtain ⟨v2, e1, h⟩ := bd_some h
          refine fx_i X (fx_runV (As := [.int y1]) X (m_Mod_blocksOf e1 _) hP hD kv_Mod_104 ⟨Nat.le_of_ble_eq_true rfl, Nat.le_of_ble_eq_true rfl⟩ 0 rfl rfl rfl hl.1 rfl (Nat.le_of_ble_eq_true rfl) d_Mod_look_129) hD hS (fun H locs hP hD hS => ?_)
          cases h
          exact fx_iret X hP hD hS d_Mod_look_132
      · have h := if_t hc h
        refine lv_iload_n hx hb d_Mod_look_107 rfl (lv_at hl 0 rfl) ?_
        refine lv_if_eq (tgt := 120) hx hb d_Mod_look_108 (by decide) (fun hc => ?_) (fun hc => ?_)
        · have h := if_t hc h
          refine lv_iconst (v := 1) hx hb d_Mod_look_120 (by decide) ?_
          cases h
          exact fx_iret X hP hD hS d_Mod_look_121
        · have h := if_f hc h
          refine lv_aload_n hx hb d_Mod_look_111 rfl (lv_at hl 1 rfl) ?_
          refine gM_mod_links X hP d_Mod_look_112 ?_
          refine lv_iload_n hx hb d_Mod_look_115 rfl (lv_at hl 2 rfl) ?_
          obtain ⟨v3, e1, h⟩ := bd_some h
          refine rM_4 X hP e1 d_Mod_look_116 ?_
          refine lv_goto (tgt := 121) hx hb d_Mod_look_117 (by decide) ?_
          cases h
          exact fx_iret X hP hD hS d_Mod_look_121
    · have h := if_t hc h
      refine lv_iload_n hx hb d_Mod_look_83 rfl (lv_at hl 0 rfl) ?_
      refine lv_if_eq (tgt := 96) hx hb d_Mod_look_84 (by decide) (fun hc => ?_) (fun hc => ?_)
      · have h := if_t hc h
        refine lv_aload_n hx hb d_Mod_look_96 rfl (lv_at hl 1 rfl) ?_
        refine lv_iload_n hx hb d_Mod_look_97 rfl (lv_at hl 2 rfl) ?_
        obtain ⟨v4, e1, h⟩ := bd_some h
        refine fx_i X (fx_runV (As := [.int y1]) X (m_Mod_namesOf e1 _) hP hD kv_Mod_97 ⟨Nat.le_of_ble_eq_true rfl, Nat.le_of_ble_eq_true rfl⟩ 0 rfl rfl rfl hl.1 rfl (Nat.le_of_ble_eq_true rfl) d_Mod_look_98) hD hS (fun H locs hP hD hS => ?_)
        cases h
        exact fx_iret X hP hD hS d_Mod_look_101
      · have h := if_f hc h
        refine lv_aload_n hx hb d_Mod_look_87 rfl (lv_at hl 1 rfl) ?_
        refine gM_mod_size X hP d_Mod_look_88 ?_
        refine lv_iload_n hx hb d_Mod_look_91 rfl (lv_at hl 2 rfl) ?_
        obtain ⟨v5, e1, h⟩ := bd_some h
        refine rM_3 X hP e1 d_Mod_look_92 ?_
        refine lv_goto (tgt := 101) hx hb d_Mod_look_93 (by decide) ?_
        cases h
        exact fx_iret X hP hD hS d_Mod_look_101
  · have h := if_t hc h
    refine lv_aload_n hx hb d_Mod_look_71 rfl (lv_at hl 1 rfl) ?_
    refine gM_mod_kind X hP d_Mod_look_72 ?_
    refine lv_iload_n hx hb d_Mod_look_75 rfl (lv_at hl 2 rfl) ?_
    obtain ⟨v6, e1, h⟩ := bd_some h
    refine rM_2 X hP e1 d_Mod_look_76 ?_
    cases h
    exact fx_iret X hP hD hS d_Mod_look_77
set_option maxHeartbeats 4000000 in
set_option maxRecDepth 100000 in
theorem v_Mod_look_24 {p : Program} {l : Launch} {e : Env} {s : State} {m : MethodId} {args : Array Value} {below : List Frame} {meth : Method} {c : Code} {D : va_G} {ad : Nat → Nat} {ca : Nat → ClassId} {A : Nat → Prop} {FU : Nat} {q : Int32 × St} (X : FX p s m meth c prog_12_method_51_code 4 (some .int) "FlashFilesModel" D (tyM ca) A) {y1 : Int32} {y2 : Int32} {z0 : Int32} {g : St} {H : Heap} {locs : List Loc} {ls : Array Slot} (hP : va_P D cls (wM ad ca g) H) (hD : va_D A (wM ad ca g)) (hS : va_S A s.heap H locs) (hl : lv_has ls 4 [(0, .ref (ad 0)), (1, .int y1), (2, .int y2)]) (h : Mod_look_b24 FU y1 y2 z0 g = some q) : W p l e (rmN 3) s m args below meth c H locs 0 0 (MQ below (fxQi D (tyM ca) A (wM ad ca q.2) q.1) args s 0 0 A) (F0 m 24 ls [.int z0, .ref (ad 0)]) := by
  have hx := X.1
  have hb := X.2.1
  unfold Mod_look_b24 at h
  refine lv_iconst (v := 0) hx hb d_Mod_look_24 (by decide) ?_
  obtain ⟨p7, e1, h⟩ := bd_some h
  refine fx_i X (fx_runV (As := [.int z0, .int (0 : Int32)]) X (m_Mod_throwing e1 _) hP hD kv_Mod_148 ⟨Nat.le_of_ble_eq_true rfl, Nat.le_of_ble_eq_true rfl⟩ 0 rfl rfl rfl hl.1 rfl (Nat.le_of_ble_eq_true rfl) d_Mod_look_25) hD hS (fun H locs hP hD hS => ?_)
  refine lv_if_eq (tgt := 33) hx hb d_Mod_look_28 (by decide) (fun hc => ?_) (fun hc => ?_)
  · have h := if_t hc h
    refine lv_iload_n hx hb d_Mod_look_33 rfl (lv_at hl 1 rfl) ?_
    obtain ⟨v8, e1, h⟩ := bd_some h
    refine fx_i X (fx_runS X (m_Mod_isId e1 _) (As := [.int y1]) hP hD ks_Mod_161 ⟨Nat.le_of_ble_eq_true rfl, Nat.le_of_ble_eq_true rfl⟩ rfl hl.1 rfl (Nat.le_of_ble_eq_true rfl) d_Mod_look_34) hD hS (fun H locs hP hD hS => ?_)
    refine lv_if_eq (tgt := 49) hx hb d_Mod_look_37 (by decide) (fun hc => ?_) (fun hc => ?_)
    · have h := if_t hc h
      refine lv_iconst (v := 0) hx hb d_Mod_look_49 (by decide) ?_
      cases h
      exact fx_iret X hP hD hS d_Mod_look_50
    · have h := if_f hc h
      refine lv_aload_n hx hb d_Mod_look_40 rfl (lv_at hl 0 rfl) ?_
      refine gM_mod_kind X hP d_Mod_look_41 ?_
      refine lv_iload_n hx hb d_Mod_look_44 rfl (lv_at hl 1 rfl) ?_
      obtain ⟨v9, e1, h⟩ := bd_some h
      refine rM_2 X hP e1 d_Mod_look_45 ?_
      refine lv_if_ne (tgt := 51) hx hb d_Mod_look_46 (by decide) (fun hc => ?_) (fun hc => ?_)
      · have h := if_f hc h
        refine lv_aload_n hx hb d_Mod_look_51 rfl (lv_at hl 0 rfl) ?_
        refine gM_mod_kind X hP d_Mod_look_52 ?_
        refine lv_iload_n hx hb d_Mod_look_55 rfl (lv_at hl 1 rfl) ?_
        obtain ⟨v10, e1, h⟩ := bd_some h
        refine rM_2 X hP e1 d_Mod_look_56 ?_
        refine lv_iconst (v := 1) hx hb d_Mod_look_57 (by decide) ?_
        refine lv_icmp_ne (tgt := 65) hx hb d_Mod_look_58 (by decide) (fun hc => ?_) (fun hc => ?_)
        · have h := if_f hc h
          refine lv_iconst (v := 0) hx hb d_Mod_look_65 (by decide) ?_
          exact v_Mod_look_66 X  hP hD hS (lv_sub hl [0, 1, 2] rfl) h
        · have h := if_t hc h
          refine lv_iconst (v := 1) hx hb d_Mod_look_61 (by decide) ?_
          refine lv_goto (tgt := 66) hx hb d_Mod_look_62 (by decide) ?_
          exact v_Mod_look_66 X  hP hD hS (lv_sub hl [0, 1, 2] rfl) h
      · have h := if_t hc h
        refine lv_iconst (v := 0) hx hb d_Mod_look_49 (by decide) ?_
        cases h
        exact fx_iret X hP hD hS d_Mod_look_50
  · have h := if_f hc h
    refine lv_iconst (v := 0) hx hb d_Mod_look_31 (by decide) ?_
    cases h
    exact fx_iret X hP hD hS d_Mod_look_32
set_option maxHeartbeats 4000000 in
set_option maxRecDepth 100000 in
theorem m_Mod_look {l : Launch} {D : va_G} {ad : Nat → Nat} {ca : Nat → ClassId} {FU : Nat} {x1 : Int32} {x2 : Int32} {g : St} {q : Int32 × St} (h : Mod_look FU x1 x2 g = some q) : CI l ⟨"FlashFilesModel", "look", "(II)I"⟩ prog_12_method_51_code 4 3 (some .int) D (tyM ca) (wM ad ca g) [.ref (ad 0), .int x1, .int x2] q.1 (wM ad ca q.2) := by
  intro sz
  refine Met.fx (Qc := fun A => fxQi D (tyM ca) A (wM ad ca q.2) q.1) (by decide) (Nat.le_of_ble_eq_true rfl) ?_
  intro p e s m below meth c A ls X hP hD hl
  have hl : lv_has ls 4 [(0, .ref (ad 0)), (1, .int x1), (2, .int x2)] := hl
  have hS : va_S A s.heap s.heap [] := va_S.rf
  have hx := X.1
  have hb := X.2.1
  unfold Mod_look at h
  refine lv_aload_n hx hb d_Mod_look_0 rfl (lv_at hl 0 rfl) ?_
  obtain ⟨p11, e1, h⟩ := bd_some h
  refine fx_i X (fx_runV (As := []) X (m_Mod_isOff e1 _) hP hD kv_Mod_169 ⟨Nat.le_of_ble_eq_true rfl, Nat.le_of_ble_eq_true rfl⟩ 0 rfl rfl rfl hl.1 rfl (Nat.le_of_ble_eq_true rfl) d_Mod_look_1) hD hS (fun H locs hP hD hS => ?_)
  refine lv_if_eq (tgt := 9) hx hb d_Mod_look_4 (by decide) (fun hc => ?_) (fun hc => ?_)
  · have h := if_t hc h
    refine lv_aload_n hx hb d_Mod_look_9 rfl (lv_at hl 0 rfl) ?_
    refine lv_iload_n hx hb d_Mod_look_10 rfl (lv_at hl 2 rfl) ?_
    refine lv_iconst (v := 0) hx hb d_Mod_look_11 (by decide) ?_
    refine lv_iconst (v := 4) hx hb d_Mod_look_12 (by decide) ?_
    obtain ⟨v12, e1, h⟩ := bd_some h
    refine fx_i X (fx_runS X (m_Mod_in e1 _) (As := [.int x2, .int (0 : Int32), .int (4 : Int32)]) hP hD ks_Mod_144 ⟨Nat.le_of_ble_eq_true rfl, Nat.le_of_ble_eq_true rfl⟩ rfl hl.1 rfl (Nat.le_of_ble_eq_true rfl) d_Mod_look_13) hD hS (fun H locs hP hD hS => ?_)
    refine lv_if_ne (tgt := 23) hx hb d_Mod_look_16 (by decide) (fun hc => ?_) (fun hc => ?_)
    · have h := if_f hc h
      refine lv_iconst (v := 0) hx hb d_Mod_look_23 (by decide) ?_
      exact v_Mod_look_24 X  hP hD hS (lv_sub hl [0, 1, 2] rfl) h
    · have h := if_t hc h
      refine lv_iconst (v := 1) hx hb d_Mod_look_19 (by decide) ?_
      refine lv_goto (tgt := 24) hx hb d_Mod_look_20 (by decide) ?_
      exact v_Mod_look_24 X  hP hD hS (lv_sub hl [0, 1, 2] rfl) h
  · have h := if_f hc h
    refine lv_iconst (v := 0) hx hb d_Mod_look_7 (by decide) ?_
    cases h
    exact fx_iret X hP hD hS d_Mod_look_8
theorem d_Mod_ids_0 : decode prog_12_method_52_code 0 = .ok (.iconst 0, 1) := by decide +kernel
theorem d_Mod_ids_1 : decode prog_12_method_52_code 1 = .ok (.istore_n 1, 1) := by decide +kernel
theorem d_Mod_ids_2 : decode prog_12_method_52_code 2 = .ok (.iconst 1, 1) := by decide +kernel
theorem d_Mod_ids_3 : decode prog_12_method_52_code 3 = .ok (.istore_n 2, 1) := by decide +kernel
theorem d_Mod_ids_4 : decode prog_12_method_52_code 4 = .ok (.iload_n 2, 1) := by decide +kernel
theorem d_Mod_ids_5 : decode prog_12_method_52_code 5 = .ok (.sipush 250, 3) := by decide +kernel
theorem d_Mod_ids_8 : decode prog_12_method_52_code 8 = .ok (.if_icmp .gt 26, 3) := by decide +kernel
theorem d_Mod_ids_11 : decode prog_12_method_52_code 11 = .ok (.iload_n 1, 1) := by decide +kernel
theorem d_Mod_ids_12 : decode prog_12_method_52_code 12 = .ok (.aload_n 0, 1) := by decide +kernel
theorem d_Mod_ids_13 : decode prog_12_method_52_code 13 = .ok (.getfield 20, 3) := by decide +kernel
theorem d_Mod_ids_16 : decode prog_12_method_52_code 16 = .ok (.iload_n 2, 1) := by decide +kernel
theorem d_Mod_ids_17 : decode prog_12_method_52_code 17 = .ok (.iaload, 1) := by decide +kernel
theorem d_Mod_ids_18 : decode prog_12_method_52_code 18 = .ok (.ifCond .eq 7, 3) := by decide +kernel
theorem d_Mod_ids_21 : decode prog_12_method_52_code 21 = .ok (.iconst 1, 1) := by decide +kernel
theorem d_Mod_ids_22 : decode prog_12_method_52_code 22 = .ok (.goto 4, 3) := by decide +kernel
theorem d_Mod_ids_25 : decode prog_12_method_52_code 25 = .ok (.iconst 0, 1) := by decide +kernel
theorem d_Mod_ids_26 : decode prog_12_method_52_code 26 = .ok (.iadd, 1) := by decide +kernel
theorem d_Mod_ids_27 : decode prog_12_method_52_code 27 = .ok (.istore_n 1, 1) := by decide +kernel
theorem d_Mod_ids_28 : decode prog_12_method_52_code 28 = .ok (.iinc 2 1, 3) := by decide +kernel
theorem d_Mod_ids_31 : decode prog_12_method_52_code 31 = .ok (.goto (-27), 3) := by decide +kernel
theorem d_Mod_ids_34 : decode prog_12_method_52_code 34 = .ok (.iload_n 1, 1) := by decide +kernel
theorem d_Mod_ids_35 : decode prog_12_method_52_code 35 = .ok (.ireturn, 1) := by decide +kernel
set_option maxHeartbeats 4000000 in
set_option maxRecDepth 100000 in
theorem v_Mod_ids_26 {p : Program} {l : Launch} {e : Env} {s : State} {m : MethodId} {args : Array Value} {below : List Frame} {meth : Method} {c : Code} {D : va_G} {ad : Nat → Nat} {ca : Nat → ClassId} {A : Nat → Prop} {FU : Nat} {q : Int32} {g : St} (X : FX p s m meth c prog_12_method_52_code 3 (some .int) "FlashFilesModel" D (tyM ca) A) {k4 : Int32 → Int32 → St → Option (Int32)} (hk4 : ∀ (y1 y2 : Int32) (H : Heap) (locs : List Loc) (ls : Array Slot), va_P D cls (wM ad ca g) H → va_D A (wM ad ca g) → va_S A s.heap H locs → lv_has ls 3 [(0, .ref (ad 0)), (1, .int y1), (2, .int y2)] → k4 y1 y2 g = some q → W p l e (rmN 1) s m args below meth c H locs 0 0 (MQ below (fxQi D (tyM ca) A (wM ad ca g) q) args s 0 0 A) (F0 m 4 ls [])) {y2 : Int32} {z0 : Int32} {z1 : Int32}  {H : Heap} {locs : List Loc} {ls : Array Slot} (hP : va_P D cls (wM ad ca g) H) (hD : va_D A (wM ad ca g)) (hS : va_S A s.heap H locs) (hl : lv_has ls 3 [(0, .ref (ad 0)), (2, .int y2)]) (h : Mod_ids_b26 FU k4 y2 z0 z1 g = some q) : W p l e (rmN 1) s m args below meth c H locs 0 0 (MQ below (fxQi D (tyM ca) A (wM ad ca g) q) args s 0 0 A) (F0 m 26 ls [.int z0, .int z1]) := by
  have hx := X.1
  have hb := X.2.1
  unfold Mod_ids_b26 at h
  refine lv_iadd hx hb d_Mod_ids_26 ?_
  refine lv_istore_n hx hb d_Mod_ids_27 rfl hl (by decide) rfl (fun ls hl => ?_)
  have hl : lv_has ls 3 [(1, .int (z1 + z0)), (0, .ref (ad 0)), (2, .int y2)] := hl
  refine lv_iinc (k := 2) (v := (y2 + (1 : Int32))) hx hb d_Mod_ids_28 hl rfl (oi_1 _) (by decide) rfl (fun ls hl => ?_)
  have hl : lv_has ls 3 [(2, .int (y2 + (1 : Int32))), (1, .int (z1 + z0)), (0, .ref (ad 0))] := hl
  refine lv_goto (tgt := 4) hx hb d_Mod_ids_31 (by decide) ?_
  exact hk4 _ _ _ _ _ hP hD hS (lv_sub hl [2, 1, 0] rfl) h
set_option maxHeartbeats 4000000 in
set_option maxRecDepth 100000 in
theorem v_Mod_ids_4 {p : Program} {l : Launch} {e : Env} {s : State} {m : MethodId} {args : Array Value} {below : List Frame} {meth : Method} {c : Code} {D : va_G} {ad : Nat → Nat} {ca : Nat → ClassId} {A : Nat → Prop} {FU : Nat} {q : Int32} {g : St} (X : FX p s m meth c prog_12_method_52_code 3 (some .int) "FlashFilesModel" D (tyM ca) A) : ∀ (n : Nat), ∀ (y1 y2 : Int32) (H : Heap) (locs : List Loc) (ls : Array Slot), va_P D cls (wM ad ca g) H → va_D A (wM ad ca g) → va_S A s.heap H locs → lv_has ls 3 [(0, .ref (ad 0)), (1, .int y1), (2, .int y2)] → Mod_ids_b4 FU n y1 y2 g = some q → W p l e (rmN 1) s m args below meth c H locs 0 0 (MQ below (fxQi D (tyM ca) A (wM ad ca g) q) args s 0 0 A) (F0 m 4 ls []) := by
  have hx := X.1
  have hb := X.2.1
  intro n
  induction n with
  | zero =>
    intro y1 y2 H locs ls hP hD hS hl h
    cases h
  | succ n ih =>
    intro y1 y2 H locs ls hP hD hS hl h
    have h := h
    rw [Mod_ids_b4.eq_2] at h
    refine lv_iload_n hx hb d_Mod_ids_4 rfl (lv_at hl 2 rfl) ?_
    refine lv_sipush (v := 250) hx hb d_Mod_ids_5 (by decide) ?_
    refine lv_icmp_gt (tgt := 34) hx hb d_Mod_ids_8 (by decide) (fun hc => ?_) (fun hc => ?_)
    · have h := if_t hc h
      refine lv_iload_n hx hb d_Mod_ids_34 rfl (lv_at hl 1 rfl) ?_
      cases h
      exact fx_iret X hP hD hS d_Mod_ids_35
    · have h := if_f hc h
      refine lv_iload_n hx hb d_Mod_ids_11 rfl (lv_at hl 1 rfl) ?_
      refine lv_aload_n hx hb d_Mod_ids_12 rfl (lv_at hl 0 rfl) ?_
      refine gM_mod_kind X hP d_Mod_ids_13 ?_
      refine lv_iload_n hx hb d_Mod_ids_16 rfl (lv_at hl 2 rfl) ?_
      obtain ⟨v1, e1, h⟩ := bd_some h
      refine rM_2 X hP e1 d_Mod_ids_17 ?_
      refine lv_if_eq (tgt := 25) hx hb d_Mod_ids_18 (by decide) (fun hc => ?_) (fun hc => ?_)
      · have h := if_t hc h
        refine lv_iconst (v := 0) hx hb d_Mod_ids_25 (by decide) ?_
        exact v_Mod_ids_26 X ih hP hD hS (lv_sub hl [0, 2] rfl) h
      · have h := if_f hc h
        refine lv_iconst (v := 1) hx hb d_Mod_ids_21 (by decide) ?_
        refine lv_goto (tgt := 26) hx hb d_Mod_ids_22 (by decide) ?_
        exact v_Mod_ids_26 X ih hP hD hS (lv_sub hl [0, 2] rfl) h
set_option maxHeartbeats 4000000 in
set_option maxRecDepth 100000 in
theorem m_Mod_ids {l : Launch} {D : va_G} {ad : Nat → Nat} {ca : Nat → ClassId} {FU : Nat} {g : St} {q : Int32} (h : Mod_ids FU  g = some q) : CI l ⟨"FlashFilesModel", "ids", "()I"⟩ prog_12_method_52_code 3 1 (some .int) D (tyM ca) (wM ad ca g) [.ref (ad 0)] q (wM ad ca g) := by
  intro sz
  refine Met.fx (Qc := fun A => fxQi D (tyM ca) A (wM ad ca g) q) (by decide) (Nat.le_of_ble_eq_true rfl) ?_
  intro p e s m below meth c A ls X hP hD hl
  have hl : lv_has ls 3 [(0, .ref (ad 0))] := hl
  have hS : va_S A s.heap s.heap [] := va_S.rf
  have hx := X.1
  have hb := X.2.1
  unfold Mod_ids at h
  refine lv_iconst (v := 0) hx hb d_Mod_ids_0 (by decide) ?_
  refine lv_istore_n hx hb d_Mod_ids_1 rfl hl (by decide) rfl (fun ls hl => ?_)
  have hl : lv_has ls 3 [(1, .int (0 : Int32)), (0, .ref (ad 0))] := hl
  refine lv_iconst (v := 1) hx hb d_Mod_ids_2 (by decide) ?_
  refine lv_istore_n hx hb d_Mod_ids_3 rfl hl (by decide) rfl (fun ls hl => ?_)
  have hl : lv_has ls 3 [(2, .int (1 : Int32)), (1, .int (0 : Int32)), (0, .ref (ad 0))] := hl
  exact v_Mod_ids_4 X  _ _ _ _ _ _ hP hD hS (lv_sub hl [2, 1, 0] rfl) h
theorem d_Mod_count_0 : decode prog_12_method_53_code 0 = .ok (.aload_n 0, 1) := by decide +kernel
theorem d_Mod_count_1 : decode prog_12_method_53_code 1 = .ok (.invokevirtual 169, 3) := by decide +kernel
theorem d_Mod_count_4 : decode prog_12_method_53_code 4 = .ok (.ifCond .eq 5, 3) := by decide +kernel
theorem d_Mod_count_7 : decode prog_12_method_53_code 7 = .ok (.iconst 0, 1) := by decide +kernel
theorem d_Mod_count_8 : decode prog_12_method_53_code 8 = .ok (.ireturn, 1) := by decide +kernel
theorem d_Mod_count_9 : decode prog_12_method_53_code 9 = .ok (.aload_n 0, 1) := by decide +kernel
theorem d_Mod_count_10 : decode prog_12_method_53_code 10 = .ok (.iload_n 1, 1) := by decide +kernel
theorem d_Mod_count_11 : decode prog_12_method_53_code 11 = .ok (.iconst 0, 1) := by decide +kernel
theorem d_Mod_count_12 : decode prog_12_method_53_code 12 = .ok (.iconst 5, 1) := by decide +kernel
theorem d_Mod_count_13 : decode prog_12_method_53_code 13 = .ok (.invokestatic 144, 3) := by decide +kernel
theorem d_Mod_count_16 : decode prog_12_method_53_code 16 = .ok (.ifCond .ne 7, 3) := by decide +kernel
theorem d_Mod_count_19 : decode prog_12_method_53_code 19 = .ok (.iconst 1, 1) := by decide +kernel
theorem d_Mod_count_20 : decode prog_12_method_53_code 20 = .ok (.goto 4, 3) := by decide +kernel
theorem d_Mod_count_23 : decode prog_12_method_53_code 23 = .ok (.iconst 0, 1) := by decide +kernel
theorem d_Mod_count_24 : decode prog_12_method_53_code 24 = .ok (.iconst 0, 1) := by decide +kernel
theorem d_Mod_count_25 : decode prog_12_method_53_code 25 = .ok (.invokevirtual 148, 3) := by decide +kernel
theorem d_Mod_count_28 : decode prog_12_method_53_code 28 = .ok (.ifCond .eq 5, 3) := by decide +kernel
theorem d_Mod_count_31 : decode prog_12_method_53_code 31 = .ok (.iconst 0, 1) := by decide +kernel
theorem d_Mod_count_32 : decode prog_12_method_53_code 32 = .ok (.ireturn, 1) := by decide +kernel
theorem d_Mod_count_33 : decode prog_12_method_53_code 33 = .ok (.iload_n 1, 1) := by decide +kernel
theorem d_Mod_count_34 : decode prog_12_method_53_code 34 = .ok (.ifCond .ne 10, 3) := by decide +kernel
theorem d_Mod_count_37 : decode prog_12_method_53_code 37 = .ok (.aload_n 0, 1) := by decide +kernel
theorem d_Mod_count_38 : decode prog_12_method_53_code 38 = .ok (.invokevirtual 126, 3) := by decide +kernel
theorem d_Mod_count_41 : decode prog_12_method_53_code 41 = .ok (.goto 55, 3) := by decide +kernel
theorem d_Mod_count_44 : decode prog_12_method_53_code 44 = .ok (.iload_n 1, 1) := by decide +kernel
theorem d_Mod_count_45 : decode prog_12_method_53_code 45 = .ok (.iconst 1, 1) := by decide +kernel
theorem d_Mod_count_46 : decode prog_12_method_53_code 46 = .ok (.if_icmp .ne 10, 3) := by decide +kernel
theorem d_Mod_count_49 : decode prog_12_method_53_code 49 = .ok (.aload_n 0, 1) := by decide +kernel
theorem d_Mod_count_50 : decode prog_12_method_53_code 50 = .ok (.getfield 129, 3) := by decide +kernel
theorem d_Mod_count_53 : decode prog_12_method_53_code 53 = .ok (.goto 43, 3) := by decide +kernel
theorem d_Mod_count_56 : decode prog_12_method_53_code 56 = .ok (.iload_n 1, 1) := by decide +kernel
theorem d_Mod_count_57 : decode prog_12_method_53_code 57 = .ok (.iconst 2, 1) := by decide +kernel
theorem d_Mod_count_58 : decode prog_12_method_53_code 58 = .ok (.if_icmp .ne 10, 3) := by decide +kernel
theorem d_Mod_count_61 : decode prog_12_method_53_code 61 = .ok (.aload_n 0, 1) := by decide +kernel
theorem d_Mod_count_62 : decode prog_12_method_53_code 62 = .ok (.getfield 132, 3) := by decide +kernel
theorem d_Mod_count_65 : decode prog_12_method_53_code 65 = .ok (.goto 31, 3) := by decide +kernel
theorem d_Mod_count_68 : decode prog_12_method_53_code 68 = .ok (.iload_n 1, 1) := by decide +kernel
theorem d_Mod_count_69 : decode prog_12_method_53_code 69 = .ok (.iconst 3, 1) := by decide +kernel
theorem d_Mod_count_70 : decode prog_12_method_53_code 70 = .ok (.if_icmp .ne 10, 3) := by decide +kernel
theorem d_Mod_count_73 : decode prog_12_method_53_code 73 = .ok (.aload_n 0, 1) := by decide +kernel
theorem d_Mod_count_74 : decode prog_12_method_53_code 74 = .ok (.getfield 135, 3) := by decide +kernel
theorem d_Mod_count_77 : decode prog_12_method_53_code 77 = .ok (.goto 19, 3) := by decide +kernel
theorem d_Mod_count_80 : decode prog_12_method_53_code 80 = .ok (.iload_n 1, 1) := by decide +kernel
theorem d_Mod_count_81 : decode prog_12_method_53_code 81 = .ok (.iconst 4, 1) := by decide +kernel
theorem d_Mod_count_82 : decode prog_12_method_53_code 82 = .ok (.if_icmp .ne 10, 3) := by decide +kernel
theorem d_Mod_count_85 : decode prog_12_method_53_code 85 = .ok (.aload_n 0, 1) := by decide +kernel
theorem d_Mod_count_86 : decode prog_12_method_53_code 86 = .ok (.getfield 155, 3) := by decide +kernel
theorem d_Mod_count_89 : decode prog_12_method_53_code 89 = .ok (.goto 7, 3) := by decide +kernel
theorem d_Mod_count_92 : decode prog_12_method_53_code 92 = .ok (.aload_n 0, 1) := by decide +kernel
theorem d_Mod_count_93 : decode prog_12_method_53_code 93 = .ok (.invokevirtual 224, 3) := by decide +kernel
theorem d_Mod_count_96 : decode prog_12_method_53_code 96 = .ok (.ireturn, 1) := by decide +kernel
set_option maxHeartbeats 4000000 in
set_option maxRecDepth 100000 in
theorem v_Mod_count_24 {p : Program} {l : Launch} {e : Env} {s : State} {m : MethodId} {args : Array Value} {below : List Frame} {meth : Method} {c : Code} {D : va_G} {ad : Nat → Nat} {ca : Nat → ClassId} {A : Nat → Prop} {FU : Nat} {q : Int32 × St} (X : FX p s m meth c prog_12_method_53_code 2 (some .int) "FlashFilesModel" D (tyM ca) A) {y1 : Int32} {z0 : Int32} {g : St} {H : Heap} {locs : List Loc} {ls : Array Slot} (hP : va_P D cls (wM ad ca g) H) (hD : va_D A (wM ad ca g)) (hS : va_S A s.heap H locs) (hl : lv_has ls 2 [(0, .ref (ad 0)), (1, .int y1)]) (h : Mod_count_b24 FU y1 z0 g = some q) : W p l e (rmN 4) s m args below meth c H locs 0 0 (MQ below (fxQi D (tyM ca) A (wM ad ca q.2) q.1) args s 0 0 A) (F0 m 24 ls [.int z0, .ref (ad 0)]) := by
  have hx := X.1
  have hb := X.2.1
  unfold Mod_count_b24 at h
  refine lv_iconst (v := 0) hx hb d_Mod_count_24 (by decide) ?_
  obtain ⟨p1, e1, h⟩ := bd_some h
  refine fx_i X (fx_runV (As := [.int z0, .int (0 : Int32)]) X (m_Mod_throwing e1 _) hP hD kv_Mod_148 ⟨Nat.le_of_ble_eq_true rfl, Nat.le_of_ble_eq_true rfl⟩ 0 rfl rfl rfl hl.1 rfl (Nat.le_of_ble_eq_true rfl) d_Mod_count_25) hD hS (fun H locs hP hD hS => ?_)
  refine lv_if_eq (tgt := 33) hx hb d_Mod_count_28 (by decide) (fun hc => ?_) (fun hc => ?_)
  · have h := if_t hc h
    refine lv_iload_n hx hb d_Mod_count_33 rfl (lv_at hl 1 rfl) ?_
    refine lv_if_ne (tgt := 44) hx hb d_Mod_count_34 (by decide) (fun hc => ?_) (fun hc => ?_)
    · have h := if_f hc h
      refine lv_iload_n hx hb d_Mod_count_44 rfl (lv_at hl 1 rfl) ?_
      refine lv_iconst (v := 1) hx hb d_Mod_count_45 (by decide) ?_
      refine lv_icmp_ne (tgt := 56) hx hb d_Mod_count_46 (by decide) (fun hc => ?_) (fun hc => ?_)
      · have h := if_f hc h
        refine lv_iload_n hx hb d_Mod_count_56 rfl (lv_at hl 1 rfl) ?_
        refine lv_iconst (v := 2) hx hb d_Mod_count_57 (by decide) ?_
        refine lv_icmp_ne (tgt := 68) hx hb d_Mod_count_58 (by decide) (fun hc => ?_) (fun hc => ?_)
        · have h := if_f hc h
          refine lv_iload_n hx hb d_Mod_count_68 rfl (lv_at hl 1 rfl) ?_
          refine lv_iconst (v := 3) hx hb d_Mod_count_69 (by decide) ?_
          refine lv_icmp_ne (tgt := 80) hx hb d_Mod_count_70 (by decide) (fun hc => ?_) (fun hc => ?_)
          · have h := if_f hc h
            refine lv_iload_n hx hb d_Mod_count_80 rfl (lv_at hl 1 rfl) ?_
            refine lv_iconst (v := 4) hx hb d_Mod_count_81 (by decide) ?_
            refine lv_icmp_ne (tgt := 92) hx hb d_Mod_count_82 (by decide) (fun hc => ?_) (fun hc => ?_)
            · have h := if_f hc h
              refine lv_aload_n hx hb d_Mod_count_92 rfl (lv_at hl 0 rfl) ?_
              obtain ⟨v2, e1, h⟩ := bd_some h
              refine fx_i X (fx_runV (As := []) X (m_Mod_ids e1 _) hP hD kv_Mod_224 ⟨Nat.le_of_ble_eq_true rfl, Nat.le_of_ble_eq_true rfl⟩ 0 rfl rfl rfl hl.1 rfl (Nat.le_of_ble_eq_true rfl) d_Mod_count_93) hD hS (fun H locs hP hD hS => ?_)
              cases h
              exact fx_iret X hP hD hS d_Mod_count_96
            · have h := if_t hc h
              refine lv_aload_n hx hb d_Mod_count_85 rfl (lv_at hl 0 rfl) ?_
              refine gM_mod_forward X hP d_Mod_count_86 ?_
              refine lv_goto (tgt := 96) hx hb d_Mod_count_89 (by decide) ?_
              cases h
              exact fx_iret X hP hD hS d_Mod_count_96
          · have h := if_t hc h
            refine lv_aload_n hx hb d_Mod_count_73 rfl (lv_at hl 0 rfl) ?_
            refine gM_mod_checkpoints X hP d_Mod_count_74 ?_
            refine lv_goto (tgt := 96) hx hb d_Mod_count_77 (by decide) ?_
            cases h
            exact fx_iret X hP hD hS d_Mod_count_96
        · have h := if_t hc h
          refine lv_aload_n hx hb d_Mod_count_61 rfl (lv_at hl 0 rfl) ?_
          refine gM_mod_fresh X hP d_Mod_count_62 ?_
          refine lv_goto (tgt := 96) hx hb d_Mod_count_65 (by decide) ?_
          cases h
          exact fx_iret X hP hD hS d_Mod_count_96
      · have h := if_t hc h
        refine lv_aload_n hx hb d_Mod_count_49 rfl (lv_at hl 0 rfl) ?_
        refine gM_mod_used X hP d_Mod_count_50 ?_
        refine lv_goto (tgt := 96) hx hb d_Mod_count_53 (by decide) ?_
        cases h
        exact fx_iret X hP hD hS d_Mod_count_96
    · have h := if_t hc h
      refine lv_aload_n hx hb d_Mod_count_37 rfl (lv_at hl 0 rfl) ?_
      obtain ⟨v3, e1, h⟩ := bd_some h
      refine fx_i X (fx_runV (As := []) X (m_Mod_inUse e1 _) hP hD kv_Mod_126 ⟨Nat.le_of_ble_eq_true rfl, Nat.le_of_ble_eq_true rfl⟩ 0 rfl rfl rfl hl.1 rfl (Nat.le_of_ble_eq_true rfl) d_Mod_count_38) hD hS (fun H locs hP hD hS => ?_)
      refine lv_goto (tgt := 96) hx hb d_Mod_count_41 (by decide) ?_
      cases h
      exact fx_iret X hP hD hS d_Mod_count_96
  · have h := if_f hc h
    refine lv_iconst (v := 0) hx hb d_Mod_count_31 (by decide) ?_
    cases h
    exact fx_iret X hP hD hS d_Mod_count_32
set_option maxHeartbeats 4000000 in
set_option maxRecDepth 100000 in
theorem m_Mod_count {l : Launch} {D : va_G} {ad : Nat → Nat} {ca : Nat → ClassId} {FU : Nat} {x1 : Int32} {g : St} {q : Int32 × St} (h : Mod_count FU x1 g = some q) : CI l ⟨"FlashFilesModel", "count", "(I)I"⟩ prog_12_method_53_code 2 4 (some .int) D (tyM ca) (wM ad ca g) [.ref (ad 0), .int x1] q.1 (wM ad ca q.2) := by
  intro sz
  refine Met.fx (Qc := fun A => fxQi D (tyM ca) A (wM ad ca q.2) q.1) (by decide) (Nat.le_of_ble_eq_true rfl) ?_
  intro p e s m below meth c A ls X hP hD hl
  have hl : lv_has ls 2 [(0, .ref (ad 0)), (1, .int x1)] := hl
  have hS : va_S A s.heap s.heap [] := va_S.rf
  have hx := X.1
  have hb := X.2.1
  unfold Mod_count at h
  refine lv_aload_n hx hb d_Mod_count_0 rfl (lv_at hl 0 rfl) ?_
  obtain ⟨p4, e1, h⟩ := bd_some h
  refine fx_i X (fx_runV (As := []) X (m_Mod_isOff e1 _) hP hD kv_Mod_169 ⟨Nat.le_of_ble_eq_true rfl, Nat.le_of_ble_eq_true rfl⟩ 0 rfl rfl rfl hl.1 rfl (Nat.le_of_ble_eq_true rfl) d_Mod_count_1) hD hS (fun H locs hP hD hS => ?_)
  refine lv_if_eq (tgt := 9) hx hb d_Mod_count_4 (by decide) (fun hc => ?_) (fun hc => ?_)
  · have h := if_t hc h
    refine lv_aload_n hx hb d_Mod_count_9 rfl (lv_at hl 0 rfl) ?_
    refine lv_iload_n hx hb d_Mod_count_10 rfl (lv_at hl 1 rfl) ?_
    refine lv_iconst (v := 0) hx hb d_Mod_count_11 (by decide) ?_
    refine lv_iconst (v := 5) hx hb d_Mod_count_12 (by decide) ?_
    obtain ⟨v5, e1, h⟩ := bd_some h
    refine fx_i X (fx_runS X (m_Mod_in e1 _) (As := [.int x1, .int (0 : Int32), .int (5 : Int32)]) hP hD ks_Mod_144 ⟨Nat.le_of_ble_eq_true rfl, Nat.le_of_ble_eq_true rfl⟩ rfl hl.1 rfl (Nat.le_of_ble_eq_true rfl) d_Mod_count_13) hD hS (fun H locs hP hD hS => ?_)
    refine lv_if_ne (tgt := 23) hx hb d_Mod_count_16 (by decide) (fun hc => ?_) (fun hc => ?_)
    · have h := if_f hc h
      refine lv_iconst (v := 0) hx hb d_Mod_count_23 (by decide) ?_
      exact v_Mod_count_24 X  hP hD hS (lv_sub hl [0, 1] rfl) h
    · have h := if_t hc h
      refine lv_iconst (v := 1) hx hb d_Mod_count_19 (by decide) ?_
      refine lv_goto (tgt := 24) hx hb d_Mod_count_20 (by decide) ?_
      exact v_Mod_count_24 X  hP hD hS (lv_sub hl [0, 1] rfl) h
  · have h := if_f hc h
    refine lv_iconst (v := 0) hx hb d_Mod_count_7 (by decide) ?_
    cases h
    exact fx_iret X hP hD hS d_Mod_count_8
theorem d_Mod_power_0 : decode prog_12_method_54_code 0 = .ok (.aload_n 0, 1) := by decide +kernel
theorem d_Mod_power_1 : decode prog_12_method_54_code 1 = .ok (.aload_n 0, 1) := by decide +kernel
theorem d_Mod_power_2 : decode prog_12_method_54_code 2 = .ok (.getfield 107, 3) := by decide +kernel
theorem d_Mod_power_5 : decode prog_12_method_54_code 5 = .ok (.ifCond .ne 7, 3) := by decide +kernel
theorem d_Mod_power_8 : decode prog_12_method_54_code 8 = .ok (.iconst 1, 1) := by decide +kernel
theorem d_Mod_power_9 : decode prog_12_method_54_code 9 = .ok (.goto 4, 3) := by decide +kernel
theorem d_Mod_power_12 : decode prog_12_method_54_code 12 = .ok (.iconst 0, 1) := by decide +kernel
theorem d_Mod_power_13 : decode prog_12_method_54_code 13 = .ok (.iconst 0, 1) := by decide +kernel
theorem d_Mod_power_14 : decode prog_12_method_54_code 14 = .ok (.invokevirtual 148, 3) := by decide +kernel
theorem d_Mod_power_17 : decode prog_12_method_54_code 17 = .ok (.ifCond .eq 4, 3) := by decide +kernel
theorem d_Mod_power_20 : decode prog_12_method_54_code 20 = .ok (.return_, 1) := by decide +kernel
theorem d_Mod_power_21 : decode prog_12_method_54_code 21 = .ok (.aload_n 0, 1) := by decide +kernel
theorem d_Mod_power_22 : decode prog_12_method_54_code 22 = .ok (.iconst 0, 1) := by decide +kernel
theorem d_Mod_power_23 : decode prog_12_method_54_code 23 = .ok (.putfield 107, 3) := by decide +kernel
theorem d_Mod_power_26 : decode prog_12_method_54_code 26 = .ok (.aload_n 0, 1) := by decide +kernel
theorem d_Mod_power_27 : decode prog_12_method_54_code 27 = .ok (.iconst (-1), 1) := by decide +kernel
theorem d_Mod_power_28 : decode prog_12_method_54_code 28 = .ok (.putfield 9, 3) := by decide +kernel
theorem d_Mod_power_31 : decode prog_12_method_54_code 31 = .ok (.return_, 1) := by decide +kernel
set_option maxHeartbeats 4000000 in
set_option maxRecDepth 100000 in
theorem v_Mod_power_13 {p : Program} {l : Launch} {e : Env} {s : State} {m : MethodId} {args : Array Value} {below : List Frame} {meth : Method} {c : Code} {D : va_G} {ad : Nat → Nat} {ca : Nat → ClassId} {A : Nat → Prop} {FU : Nat} {q : St} (X : FX p s m meth c prog_12_method_54_code 1 none "FlashFilesModel" D (tyM ca) A) {z0 : Int32} {g : St} {H : Heap} {locs : List Loc} {ls : Array Slot} (hP : va_P D cls (wM ad ca g) H) (hD : va_D A (wM ad ca g)) (hS : va_S A s.heap H locs) (hl : lv_has ls 1 [(0, .ref (ad 0))]) (h : Mod_power_b13 FU z0 g = some q) : W p l e (rmN 2) s m args below meth c H locs 0 0 (MQ below (fxQv D (tyM ca) A (wM ad ca q)) args s 0 0 A) (F0 m 13 ls [.int z0, .ref (ad 0)]) := by
  have hx := X.1
  have hb := X.2.1
  unfold Mod_power_b13 at h
  refine lv_iconst (v := 0) hx hb d_Mod_power_13 (by decide) ?_
  obtain ⟨p1, e1, h⟩ := bd_some h
  refine fx_i X (fx_runV (As := [.int z0, .int (0 : Int32)]) X (m_Mod_throwing e1 _) hP hD kv_Mod_148 ⟨Nat.le_of_ble_eq_true rfl, Nat.le_of_ble_eq_true rfl⟩ 0 rfl rfl rfl hl.1 rfl (Nat.le_of_ble_eq_true rfl) d_Mod_power_14) hD hS (fun H locs hP hD hS => ?_)
  refine lv_if_eq (tgt := 21) hx hb d_Mod_power_17 (by decide) (fun hc => ?_) (fun hc => ?_)
  · have h := if_t hc h
    refine lv_aload_n hx hb d_Mod_power_21 rfl (lv_at hl 0 rfl) ?_
    refine lv_iconst (v := 0) hx hb d_Mod_power_22 (by decide) ?_
    obtain ⟨g2, e1, h⟩ := nx_some h
    refine uM_mod_mounted X hP hD hS (Or.inl rfl) e1 d_Mod_power_23 (fun H locs hP hD hS => ?_)
    refine lv_aload_n hx hb d_Mod_power_26 rfl (lv_at hl 0 rfl) ?_
    refine lv_iconst (v := -1) hx hb d_Mod_power_27 (by decide) ?_
    obtain ⟨g3, e1, h⟩ := nx_some h
    refine uM_mod_cut X hP hD hS e1 d_Mod_power_28 (fun H locs hP hD hS => ?_)
    cases h
    exact fx_vret X hP hD hS d_Mod_power_31
  · have h := if_f hc h
    cases h
    exact fx_vret X hP hD hS d_Mod_power_20
set_option maxHeartbeats 4000000 in
set_option maxRecDepth 100000 in
theorem m_Mod_power {l : Launch} {D : va_G} {ad : Nat → Nat} {ca : Nat → ClassId} {FU : Nat} {g : St} {q : St} (h : Mod_power FU  g = some q) : CV l ⟨"FlashFilesModel", "power", "()V"⟩ prog_12_method_54_code 1 2 D (tyM ca) (wM ad ca g) [.ref (ad 0)] (wM ad ca q) := by
  intro sz
  refine Met.fx (Qc := fun A => fxQv D (tyM ca) A (wM ad ca q)) (by decide) (Nat.le_of_ble_eq_true rfl) ?_
  intro p e s m below meth c A ls X hP hD hl
  have hl : lv_has ls 1 [(0, .ref (ad 0))] := hl
  have hS : va_S A s.heap s.heap [] := va_S.rf
  have hx := X.1
  have hb := X.2.1
  unfold Mod_power at h
  refine lv_aload_n hx hb d_Mod_power_0 rfl (lv_at hl 0 rfl) ?_
  refine lv_aload_n hx hb d_Mod_power_1 rfl (lv_at hl 0 rfl) ?_
  refine gM_mod_mounted X hP d_Mod_power_2 ?_
  refine lv_if_ne (tgt := 12) hx hb d_Mod_power_5 (by decide) (fun hc => ?_) (fun hc => ?_)
  · have h := if_f hc h
    refine lv_iconst (v := 0) hx hb d_Mod_power_12 (by decide) ?_
    exact v_Mod_power_13 X  hP hD hS (lv_sub hl [0] rfl) h
  · have h := if_t hc h
    refine lv_iconst (v := 1) hx hb d_Mod_power_8 (by decide) ?_
    refine lv_goto (tgt := 13) hx hb d_Mod_power_9 (by decide) ?_
    exact v_Mod_power_13 X  hP hD hS (lv_sub hl [0] rfl) h
theorem d_Mod_cut_0 : decode prog_12_method_55_code 0 = .ok (.aload_n 0, 1) := by decide +kernel
theorem d_Mod_cut_1 : decode prog_12_method_55_code 1 = .ok (.aload_n 0, 1) := by decide +kernel
theorem d_Mod_cut_2 : decode prog_12_method_55_code 2 = .ok (.getfield 107, 3) := by decide +kernel
theorem d_Mod_cut_5 : decode prog_12_method_55_code 5 = .ok (.ifCond .ne 7, 3) := by decide +kernel
theorem d_Mod_cut_8 : decode prog_12_method_55_code 8 = .ok (.iconst 1, 1) := by decide +kernel
theorem d_Mod_cut_9 : decode prog_12_method_55_code 9 = .ok (.goto 4, 3) := by decide +kernel
theorem d_Mod_cut_12 : decode prog_12_method_55_code 12 = .ok (.iconst 0, 1) := by decide +kernel
theorem d_Mod_cut_13 : decode prog_12_method_55_code 13 = .ok (.iconst 0, 1) := by decide +kernel
theorem d_Mod_cut_14 : decode prog_12_method_55_code 14 = .ok (.invokevirtual 148, 3) := by decide +kernel
theorem d_Mod_cut_17 : decode prog_12_method_55_code 17 = .ok (.ifCond .eq 4, 3) := by decide +kernel
theorem d_Mod_cut_20 : decode prog_12_method_55_code 20 = .ok (.return_, 1) := by decide +kernel
theorem d_Mod_cut_21 : decode prog_12_method_55_code 21 = .ok (.aload_n 0, 1) := by decide +kernel
theorem d_Mod_cut_22 : decode prog_12_method_55_code 22 = .ok (.iload_n 1, 1) := by decide +kernel
theorem d_Mod_cut_23 : decode prog_12_method_55_code 23 = .ok (.ifCond .ge 7, 3) := by decide +kernel
theorem d_Mod_cut_26 : decode prog_12_method_55_code 26 = .ok (.iconst (-1), 1) := by decide +kernel
theorem d_Mod_cut_27 : decode prog_12_method_55_code 27 = .ok (.goto 4, 3) := by decide +kernel
theorem d_Mod_cut_30 : decode prog_12_method_55_code 30 = .ok (.iload_n 1, 1) := by decide +kernel
theorem d_Mod_cut_31 : decode prog_12_method_55_code 31 = .ok (.putfield 9, 3) := by decide +kernel
theorem d_Mod_cut_34 : decode prog_12_method_55_code 34 = .ok (.return_, 1) := by decide +kernel
set_option maxHeartbeats 4000000 in
set_option maxRecDepth 100000 in
theorem v_Mod_cut_13 {p : Program} {l : Launch} {e : Env} {s : State} {m : MethodId} {args : Array Value} {below : List Frame} {meth : Method} {c : Code} {D : va_G} {ad : Nat → Nat} {ca : Nat → ClassId} {A : Nat → Prop} {FU : Nat} {q : St} (X : FX p s m meth c prog_12_method_55_code 2 none "FlashFilesModel" D (tyM ca) A) {y1 : Int32} {z0 : Int32} {g : St} {H : Heap} {locs : List Loc} {ls : Array Slot} (hP : va_P D cls (wM ad ca g) H) (hD : va_D A (wM ad ca g)) (hS : va_S A s.heap H locs) (hl : lv_has ls 2 [(0, .ref (ad 0)), (1, .int y1)]) (h : Mod_cut_b13 FU y1 z0 g = some q) : W p l e (rmN 2) s m args below meth c H locs 0 0 (MQ below (fxQv D (tyM ca) A (wM ad ca q)) args s 0 0 A) (F0 m 13 ls [.int z0, .ref (ad 0)]) := by
  have hx := X.1
  have hb := X.2.1
  unfold Mod_cut_b13 at h
  refine lv_iconst (v := 0) hx hb d_Mod_cut_13 (by decide) ?_
  obtain ⟨p1, e1, h⟩ := bd_some h
  refine fx_i X (fx_runV (As := [.int z0, .int (0 : Int32)]) X (m_Mod_throwing e1 _) hP hD kv_Mod_148 ⟨Nat.le_of_ble_eq_true rfl, Nat.le_of_ble_eq_true rfl⟩ 0 rfl rfl rfl hl.1 rfl (Nat.le_of_ble_eq_true rfl) d_Mod_cut_14) hD hS (fun H locs hP hD hS => ?_)
  refine lv_if_eq (tgt := 21) hx hb d_Mod_cut_17 (by decide) (fun hc => ?_) (fun hc => ?_)
  · have h := if_t hc h
    refine lv_aload_n hx hb d_Mod_cut_21 rfl (lv_at hl 0 rfl) ?_
    refine lv_iload_n hx hb d_Mod_cut_22 rfl (lv_at hl 1 rfl) ?_
    refine lv_if_ge (tgt := 30) hx hb d_Mod_cut_23 (by decide) (fun hc => ?_) (fun hc => ?_)
    · have h := if_t hc h
      refine lv_iload_n hx hb d_Mod_cut_30 rfl (lv_at hl 1 rfl) ?_
      obtain ⟨g2, e1, h⟩ := nx_some h
      refine uM_mod_cut X hP hD hS e1 d_Mod_cut_31 (fun H locs hP hD hS => ?_)
      cases h
      exact fx_vret X hP hD hS d_Mod_cut_34
    · have h := if_f hc h
      refine lv_iconst (v := -1) hx hb d_Mod_cut_26 (by decide) ?_
      refine lv_goto (tgt := 31) hx hb d_Mod_cut_27 (by decide) ?_
      obtain ⟨g3, e1, h⟩ := nx_some h
      refine uM_mod_cut X hP hD hS e1 d_Mod_cut_31 (fun H locs hP hD hS => ?_)
      cases h
      exact fx_vret X hP hD hS d_Mod_cut_34
  · have h := if_f hc h
    cases h
    exact fx_vret X hP hD hS d_Mod_cut_20
set_option maxHeartbeats 4000000 in
set_option maxRecDepth 100000 in
theorem m_Mod_cut {l : Launch} {D : va_G} {ad : Nat → Nat} {ca : Nat → ClassId} {FU : Nat} {x1 : Int32} {g : St} {q : St} (h : Mod_cut FU x1 g = some q) : CV l ⟨"FlashFilesModel", "cut", "(I)V"⟩ prog_12_method_55_code 2 2 D (tyM ca) (wM ad ca g) [.ref (ad 0), .int x1] (wM ad ca q) := by
  intro sz
  refine Met.fx (Qc := fun A => fxQv D (tyM ca) A (wM ad ca q)) (by decide) (Nat.le_of_ble_eq_true rfl) ?_
  intro p e s m below meth c A ls X hP hD hl
  have hl : lv_has ls 2 [(0, .ref (ad 0)), (1, .int x1)] := hl
  have hS : va_S A s.heap s.heap [] := va_S.rf
  have hx := X.1
  have hb := X.2.1
  unfold Mod_cut at h
  refine lv_aload_n hx hb d_Mod_cut_0 rfl (lv_at hl 0 rfl) ?_
  refine lv_aload_n hx hb d_Mod_cut_1 rfl (lv_at hl 0 rfl) ?_
  refine gM_mod_mounted X hP d_Mod_cut_2 ?_
  refine lv_if_ne (tgt := 12) hx hb d_Mod_cut_5 (by decide) (fun hc => ?_) (fun hc => ?_)
  · have h := if_f hc h
    refine lv_iconst (v := 0) hx hb d_Mod_cut_12 (by decide) ?_
    exact v_Mod_cut_13 X  hP hD hS (lv_sub hl [0, 1] rfl) h
  · have h := if_t hc h
    refine lv_iconst (v := 1) hx hb d_Mod_cut_8 (by decide) ?_
    refine lv_goto (tgt := 13) hx hb d_Mod_cut_9 (by decide) ?_
    exact v_Mod_cut_13 X  hP hD hS (lv_sub hl [0, 1] rfl) h
theorem d_Mod_mount_0 : decode prog_12_method_56_code 0 = .ok (.aload_n 0, 1) := by decide +kernel
theorem d_Mod_mount_1 : decode prog_12_method_56_code 1 = .ok (.aload_n 0, 1) := by decide +kernel
theorem d_Mod_mount_2 : decode prog_12_method_56_code 2 = .ok (.getfield 152, 3) := by decide +kernel
theorem d_Mod_mount_5 : decode prog_12_method_56_code 5 = .ok (.ifCond .eq 10, 3) := by decide +kernel
theorem d_Mod_mount_8 : decode prog_12_method_56_code 8 = .ok (.aload_n 0, 1) := by decide +kernel
theorem d_Mod_mount_9 : decode prog_12_method_56_code 9 = .ok (.getfield 107, 3) := by decide +kernel
theorem d_Mod_mount_12 : decode prog_12_method_56_code 12 = .ok (.ifCond .eq 7, 3) := by decide +kernel
theorem d_Mod_mount_15 : decode prog_12_method_56_code 15 = .ok (.iconst 1, 1) := by decide +kernel
theorem d_Mod_mount_16 : decode prog_12_method_56_code 16 = .ok (.goto 4, 3) := by decide +kernel
theorem d_Mod_mount_19 : decode prog_12_method_56_code 19 = .ok (.iconst 0, 1) := by decide +kernel
theorem d_Mod_mount_20 : decode prog_12_method_56_code 20 = .ok (.iconst 0, 1) := by decide +kernel
theorem d_Mod_mount_21 : decode prog_12_method_56_code 21 = .ok (.invokevirtual 148, 3) := by decide +kernel
theorem d_Mod_mount_24 : decode prog_12_method_56_code 24 = .ok (.ifCond .eq 5, 3) := by decide +kernel
theorem d_Mod_mount_27 : decode prog_12_method_56_code 27 = .ok (.iconst 0, 1) := by decide +kernel
theorem d_Mod_mount_28 : decode prog_12_method_56_code 28 = .ok (.ireturn, 1) := by decide +kernel
theorem d_Mod_mount_29 : decode prog_12_method_56_code 29 = .ok (.aload_n 0, 1) := by decide +kernel
theorem d_Mod_mount_30 : decode prog_12_method_56_code 30 = .ok (.iconst 0, 1) := by decide +kernel
theorem d_Mod_mount_31 : decode prog_12_method_56_code 31 = .ok (.putfield 155, 3) := by decide +kernel
theorem d_Mod_mount_34 : decode prog_12_method_56_code 34 = .ok (.iconst 1, 1) := by decide +kernel
theorem d_Mod_mount_35 : decode prog_12_method_56_code 35 = .ok (.istore_n 1, 1) := by decide +kernel
theorem d_Mod_mount_36 : decode prog_12_method_56_code 36 = .ok (.iload_n 1, 1) := by decide +kernel
theorem d_Mod_mount_37 : decode prog_12_method_56_code 37 = .ok (.sipush 250, 3) := by decide +kernel
theorem d_Mod_mount_40 : decode prog_12_method_56_code 40 = .ok (.if_icmp .gt 129, 3) := by decide +kernel
theorem d_Mod_mount_43 : decode prog_12_method_56_code 43 = .ok (.aload_n 0, 1) := by decide +kernel
theorem d_Mod_mount_44 : decode prog_12_method_56_code 44 = .ok (.getfield 34, 3) := by decide +kernel
theorem d_Mod_mount_47 : decode prog_12_method_56_code 47 = .ok (.iload_n 1, 1) := by decide +kernel
theorem d_Mod_mount_48 : decode prog_12_method_56_code 48 = .ok (.baload, 1) := by decide +kernel
theorem d_Mod_mount_49 : decode prog_12_method_56_code 49 = .ok (.ifCond .eq 21, 3) := by decide +kernel
theorem d_Mod_mount_52 : decode prog_12_method_56_code 52 = .ok (.aload_n 0, 1) := by decide +kernel
theorem d_Mod_mount_53 : decode prog_12_method_56_code 53 = .ok (.getfield 20, 3) := by decide +kernel
theorem d_Mod_mount_56 : decode prog_12_method_56_code 56 = .ok (.sipush 251, 3) := by decide +kernel
theorem d_Mod_mount_59 : decode prog_12_method_56_code 59 = .ok (.iload_n 1, 1) := by decide +kernel
theorem d_Mod_mount_60 : decode prog_12_method_56_code 60 = .ok (.iadd, 1) := by decide +kernel
theorem d_Mod_mount_61 : decode prog_12_method_56_code 61 = .ok (.iaload, 1) := by decide +kernel
theorem d_Mod_mount_62 : decode prog_12_method_56_code 62 = .ok (.iconst 1, 1) := by decide +kernel
theorem d_Mod_mount_63 : decode prog_12_method_56_code 63 = .ok (.if_icmp .ne 7, 3) := by decide +kernel
theorem d_Mod_mount_66 : decode prog_12_method_56_code 66 = .ok (.iconst 1, 1) := by decide +kernel
theorem d_Mod_mount_67 : decode prog_12_method_56_code 67 = .ok (.goto 4, 3) := by decide +kernel
theorem d_Mod_mount_70 : decode prog_12_method_56_code 70 = .ok (.iconst 0, 1) := by decide +kernel
theorem d_Mod_mount_71 : decode prog_12_method_56_code 71 = .ok (.istore_n 2, 1) := by decide +kernel
theorem d_Mod_mount_72 : decode prog_12_method_56_code 72 = .ok (.aload_n 0, 1) := by decide +kernel
theorem d_Mod_mount_73 : decode prog_12_method_56_code 73 = .ok (.getfield 20, 3) := by decide +kernel
theorem d_Mod_mount_76 : decode prog_12_method_56_code 76 = .ok (.iload_n 1, 1) := by decide +kernel
theorem d_Mod_mount_77 : decode prog_12_method_56_code 77 = .ok (.iaload, 1) := by decide +kernel
theorem d_Mod_mount_78 : decode prog_12_method_56_code 78 = .ok (.iconst 1, 1) := by decide +kernel
theorem d_Mod_mount_79 : decode prog_12_method_56_code 79 = .ok (.if_icmp .ne 9, 3) := by decide +kernel
theorem d_Mod_mount_82 : decode prog_12_method_56_code 82 = .ok (.aload_n 0, 1) := by decide +kernel
theorem d_Mod_mount_83 : decode prog_12_method_56_code 83 = .ok (.iload_n 1, 1) := by decide +kernel
theorem d_Mod_mount_84 : decode prog_12_method_56_code 84 = .ok (.iconst 0, 1) := by decide +kernel
theorem d_Mod_mount_85 : decode prog_12_method_56_code 85 = .ok (.invokevirtual 119, 3) := by decide +kernel
theorem d_Mod_mount_88 : decode prog_12_method_56_code 88 = .ok (.aload_n 0, 1) := by decide +kernel
theorem d_Mod_mount_89 : decode prog_12_method_56_code 89 = .ok (.getfield 20, 3) := by decide +kernel
theorem d_Mod_mount_92 : decode prog_12_method_56_code 92 = .ok (.iload_n 1, 1) := by decide +kernel
theorem d_Mod_mount_93 : decode prog_12_method_56_code 93 = .ok (.aload_n 0, 1) := by decide +kernel
theorem d_Mod_mount_94 : decode prog_12_method_56_code 94 = .ok (.getfield 20, 3) := by decide +kernel
theorem d_Mod_mount_97 : decode prog_12_method_56_code 97 = .ok (.sipush 251, 3) := by decide +kernel
theorem d_Mod_mount_100 : decode prog_12_method_56_code 100 = .ok (.iload_n 1, 1) := by decide +kernel
theorem d_Mod_mount_101 : decode prog_12_method_56_code 101 = .ok (.iadd, 1) := by decide +kernel
theorem d_Mod_mount_102 : decode prog_12_method_56_code 102 = .ok (.iaload, 1) := by decide +kernel
theorem d_Mod_mount_103 : decode prog_12_method_56_code 103 = .ok (.iastore, 1) := by decide +kernel
theorem d_Mod_mount_104 : decode prog_12_method_56_code 104 = .ok (.aload_n 0, 1) := by decide +kernel
theorem d_Mod_mount_105 : decode prog_12_method_56_code 105 = .ok (.getfield 27, 3) := by decide +kernel
theorem d_Mod_mount_108 : decode prog_12_method_56_code 108 = .ok (.iload_n 1, 1) := by decide +kernel
theorem d_Mod_mount_109 : decode prog_12_method_56_code 109 = .ok (.aload_n 0, 1) := by decide +kernel
theorem d_Mod_mount_110 : decode prog_12_method_56_code 110 = .ok (.getfield 27, 3) := by decide +kernel
theorem d_Mod_mount_113 : decode prog_12_method_56_code 113 = .ok (.sipush 251, 3) := by decide +kernel
theorem d_Mod_mount_116 : decode prog_12_method_56_code 116 = .ok (.iload_n 1, 1) := by decide +kernel
theorem d_Mod_mount_117 : decode prog_12_method_56_code 117 = .ok (.iadd, 1) := by decide +kernel
theorem d_Mod_mount_118 : decode prog_12_method_56_code 118 = .ok (.iaload, 1) := by decide +kernel
theorem d_Mod_mount_119 : decode prog_12_method_56_code 119 = .ok (.iastore, 1) := by decide +kernel
theorem d_Mod_mount_120 : decode prog_12_method_56_code 120 = .ok (.aload_n 0, 1) := by decide +kernel
theorem d_Mod_mount_121 : decode prog_12_method_56_code 121 = .ok (.getfield 20, 3) := by decide +kernel
theorem d_Mod_mount_124 : decode prog_12_method_56_code 124 = .ok (.iload_n 1, 1) := by decide +kernel
theorem d_Mod_mount_125 : decode prog_12_method_56_code 125 = .ok (.iaload, 1) := by decide +kernel
theorem d_Mod_mount_126 : decode prog_12_method_56_code 126 = .ok (.iconst 1, 1) := by decide +kernel
theorem d_Mod_mount_127 : decode prog_12_method_56_code 127 = .ok (.if_icmp .ne 18, 3) := by decide +kernel
theorem d_Mod_mount_130 : decode prog_12_method_56_code 130 = .ok (.aload_n 0, 1) := by decide +kernel
theorem d_Mod_mount_131 : decode prog_12_method_56_code 131 = .ok (.iload_n 1, 1) := by decide +kernel
theorem d_Mod_mount_132 : decode prog_12_method_56_code 132 = .ok (.iload_n 2, 1) := by decide +kernel
theorem d_Mod_mount_133 : decode prog_12_method_56_code 133 = .ok (.ifCond .eq 7, 3) := by decide +kernel
theorem d_Mod_mount_136 : decode prog_12_method_56_code 136 = .ok (.iconst 2, 1) := by decide +kernel
theorem d_Mod_mount_137 : decode prog_12_method_56_code 137 = .ok (.goto 4, 3) := by decide +kernel
theorem d_Mod_mount_140 : decode prog_12_method_56_code 140 = .ok (.iconst 1, 1) := by decide +kernel
theorem d_Mod_mount_141 : decode prog_12_method_56_code 141 = .ok (.iconst 0, 1) := by decide +kernel
theorem d_Mod_mount_142 : decode prog_12_method_56_code 142 = .ok (.invokevirtual 115, 3) := by decide +kernel
theorem d_Mod_mount_145 : decode prog_12_method_56_code 145 = .ok (.aload_n 0, 1) := by decide +kernel
theorem d_Mod_mount_146 : decode prog_12_method_56_code 146 = .ok (.dup, 1) := by decide +kernel
theorem d_Mod_mount_147 : decode prog_12_method_56_code 147 = .ok (.getfield 155, 3) := by decide +kernel
theorem d_Mod_mount_150 : decode prog_12_method_56_code 150 = .ok (.iload_n 2, 1) := by decide +kernel
theorem d_Mod_mount_151 : decode prog_12_method_56_code 151 = .ok (.ifCond .eq 7, 3) := by decide +kernel
theorem d_Mod_mount_154 : decode prog_12_method_56_code 154 = .ok (.iconst 1, 1) := by decide +kernel
theorem d_Mod_mount_155 : decode prog_12_method_56_code 155 = .ok (.goto 4, 3) := by decide +kernel
theorem d_Mod_mount_158 : decode prog_12_method_56_code 158 = .ok (.iconst 0, 1) := by decide +kernel
theorem d_Mod_mount_159 : decode prog_12_method_56_code 159 = .ok (.iadd, 1) := by decide +kernel
theorem d_Mod_mount_160 : decode prog_12_method_56_code 160 = .ok (.putfield 155, 3) := by decide +kernel
theorem d_Mod_mount_163 : decode prog_12_method_56_code 163 = .ok (.iinc 1 1, 3) := by decide +kernel
theorem d_Mod_mount_166 : decode prog_12_method_56_code 166 = .ok (.goto (-130), 3) := by decide +kernel
theorem d_Mod_mount_169 : decode prog_12_method_56_code 169 = .ok (.aload_n 0, 1) := by decide +kernel
theorem d_Mod_mount_170 : decode prog_12_method_56_code 170 = .ok (.aload_n 0, 1) := by decide +kernel
theorem d_Mod_mount_171 : decode prog_12_method_56_code 171 = .ok (.getfield 123, 3) := by decide +kernel
theorem d_Mod_mount_174 : decode prog_12_method_56_code 174 = .ok (.putfield 94, 3) := by decide +kernel
theorem d_Mod_mount_177 : decode prog_12_method_56_code 177 = .ok (.iconst 0, 1) := by decide +kernel
theorem d_Mod_mount_178 : decode prog_12_method_56_code 178 = .ok (.istore_n 1, 1) := by decide +kernel
theorem d_Mod_mount_179 : decode prog_12_method_56_code 179 = .ok (.iload_n 1, 1) := by decide +kernel
theorem d_Mod_mount_180 : decode prog_12_method_56_code 180 = .ok (.aload_n 0, 1) := by decide +kernel
theorem d_Mod_mount_181 : decode prog_12_method_56_code 181 = .ok (.getfield 94, 3) := by decide +kernel
theorem d_Mod_mount_184 : decode prog_12_method_56_code 184 = .ok (.if_icmp .ge 45, 3) := by decide +kernel
theorem d_Mod_mount_187 : decode prog_12_method_56_code 187 = .ok (.aload_n 0, 1) := by decide +kernel
theorem d_Mod_mount_188 : decode prog_12_method_56_code 188 = .ok (.getfield 51, 3) := by decide +kernel
theorem d_Mod_mount_191 : decode prog_12_method_56_code 191 = .ok (.iload_n 1, 1) := by decide +kernel
theorem d_Mod_mount_192 : decode prog_12_method_56_code 192 = .ok (.aload_n 0, 1) := by decide +kernel
theorem d_Mod_mount_193 : decode prog_12_method_56_code 193 = .ok (.getfield 64, 3) := by decide +kernel
theorem d_Mod_mount_196 : decode prog_12_method_56_code 196 = .ok (.iload_n 1, 1) := by decide +kernel
theorem d_Mod_mount_197 : decode prog_12_method_56_code 197 = .ok (.iaload, 1) := by decide +kernel
theorem d_Mod_mount_198 : decode prog_12_method_56_code 198 = .ok (.iastore, 1) := by decide +kernel
theorem d_Mod_mount_199 : decode prog_12_method_56_code 199 = .ok (.aload_n 0, 1) := by decide +kernel
theorem d_Mod_mount_200 : decode prog_12_method_56_code 200 = .ok (.getfield 54, 3) := by decide +kernel
theorem d_Mod_mount_203 : decode prog_12_method_56_code 203 = .ok (.iload_n 1, 1) := by decide +kernel
theorem d_Mod_mount_204 : decode prog_12_method_56_code 204 = .ok (.aload_n 0, 1) := by decide +kernel
theorem d_Mod_mount_205 : decode prog_12_method_56_code 205 = .ok (.getfield 67, 3) := by decide +kernel
theorem d_Mod_mount_208 : decode prog_12_method_56_code 208 = .ok (.iload_n 1, 1) := by decide +kernel
theorem d_Mod_mount_209 : decode prog_12_method_56_code 209 = .ok (.iaload, 1) := by decide +kernel
theorem d_Mod_mount_210 : decode prog_12_method_56_code 210 = .ok (.iastore, 1) := by decide +kernel
theorem d_Mod_mount_211 : decode prog_12_method_56_code 211 = .ok (.aload_n 0, 1) := by decide +kernel
theorem d_Mod_mount_212 : decode prog_12_method_56_code 212 = .ok (.getfield 57, 3) := by decide +kernel
theorem d_Mod_mount_215 : decode prog_12_method_56_code 215 = .ok (.iload_n 1, 1) := by decide +kernel
theorem d_Mod_mount_216 : decode prog_12_method_56_code 216 = .ok (.aload_n 0, 1) := by decide +kernel
theorem d_Mod_mount_217 : decode prog_12_method_56_code 217 = .ok (.getfield 70, 3) := by decide +kernel
theorem d_Mod_mount_220 : decode prog_12_method_56_code 220 = .ok (.iload_n 1, 1) := by decide +kernel
theorem d_Mod_mount_221 : decode prog_12_method_56_code 221 = .ok (.iaload, 1) := by decide +kernel
theorem d_Mod_mount_222 : decode prog_12_method_56_code 222 = .ok (.iastore, 1) := by decide +kernel
theorem d_Mod_mount_223 : decode prog_12_method_56_code 223 = .ok (.iinc 1 1, 3) := by decide +kernel
theorem d_Mod_mount_226 : decode prog_12_method_56_code 226 = .ok (.goto (-47), 3) := by decide +kernel
theorem d_Mod_mount_229 : decode prog_12_method_56_code 229 = .ok (.iconst 0, 1) := by decide +kernel
theorem d_Mod_mount_230 : decode prog_12_method_56_code 230 = .ok (.istore_n 1, 1) := by decide +kernel
theorem d_Mod_mount_231 : decode prog_12_method_56_code 231 = .ok (.iload_n 1, 1) := by decide +kernel
theorem d_Mod_mount_232 : decode prog_12_method_56_code 232 = .ok (.bipush 20, 2) := by decide +kernel
theorem d_Mod_mount_234 : decode prog_12_method_56_code 234 = .ok (.aload_n 0, 1) := by decide +kernel
theorem d_Mod_mount_235 : decode prog_12_method_56_code 235 = .ok (.getfield 94, 3) := by decide +kernel
theorem d_Mod_mount_238 : decode prog_12_method_56_code 238 = .ok (.imul, 1) := by decide +kernel
theorem d_Mod_mount_239 : decode prog_12_method_56_code 239 = .ok (.if_icmp .ge 21, 3) := by decide +kernel
theorem d_Mod_mount_242 : decode prog_12_method_56_code 242 = .ok (.aload_n 0, 1) := by decide +kernel
theorem d_Mod_mount_243 : decode prog_12_method_56_code 243 = .ok (.getfield 61, 3) := by decide +kernel
theorem d_Mod_mount_246 : decode prog_12_method_56_code 246 = .ok (.iload_n 1, 1) := by decide +kernel
theorem d_Mod_mount_247 : decode prog_12_method_56_code 247 = .ok (.aload_n 0, 1) := by decide +kernel
theorem d_Mod_mount_248 : decode prog_12_method_56_code 248 = .ok (.getfield 73, 3) := by decide +kernel
theorem d_Mod_mount_251 : decode prog_12_method_56_code 251 = .ok (.iload_n 1, 1) := by decide +kernel
theorem d_Mod_mount_252 : decode prog_12_method_56_code 252 = .ok (.baload, 1) := by decide +kernel
theorem d_Mod_mount_253 : decode prog_12_method_56_code 253 = .ok (.bastore, 1) := by decide +kernel
theorem d_Mod_mount_254 : decode prog_12_method_56_code 254 = .ok (.iinc 1 1, 3) := by decide +kernel
theorem d_Mod_mount_257 : decode prog_12_method_56_code 257 = .ok (.goto (-26), 3) := by decide +kernel
theorem d_Mod_mount_260 : decode prog_12_method_56_code 260 = .ok (.aload_n 0, 1) := by decide +kernel
theorem d_Mod_mount_261 : decode prog_12_method_56_code 261 = .ok (.iconst 1, 1) := by decide +kernel
theorem d_Mod_mount_262 : decode prog_12_method_56_code 262 = .ok (.putfield 107, 3) := by decide +kernel
theorem d_Mod_mount_265 : decode prog_12_method_56_code 265 = .ok (.aload_n 0, 1) := by decide +kernel
theorem d_Mod_mount_266 : decode prog_12_method_56_code 266 = .ok (.invokevirtual 141, 3) := by decide +kernel
theorem d_Mod_mount_269 : decode prog_12_method_56_code 269 = .ok (.pop, 1) := by decide +kernel
theorem d_Mod_mount_270 : decode prog_12_method_56_code 270 = .ok (.aload_n 0, 1) := by decide +kernel
theorem d_Mod_mount_271 : decode prog_12_method_56_code 271 = .ok (.getfield 155, 3) := by decide +kernel
theorem d_Mod_mount_274 : decode prog_12_method_56_code 274 = .ok (.ireturn, 1) := by decide +kernel
set_option maxHeartbeats 4000000 in
set_option maxRecDepth 100000 in
theorem v_Mod_mount_231 {p : Program} {l : Launch} {e : Env} {s : State} {m : MethodId} {args : Array Value} {below : List Frame} {meth : Method} {c : Code} {D : va_G} {ad : Nat → Nat} {ca : Nat → ClassId} {A : Nat → Prop} {FU : Nat} {q : Int32 × St} (X : FX p s m meth c prog_12_method_56_code 3 (some .int) "FlashFilesModel" D (tyM ca) A) : ∀ (n : Nat), ∀ (y1 : Int32) (g : St) (H : Heap) (locs : List Loc) (ls : Array Slot), va_P D cls (wM ad ca g) H → va_D A (wM ad ca g) → va_S A s.heap H locs → lv_has ls 3 [(0, .ref (ad 0)), (1, .int y1)] → Mod_mount_b231 FU n y1 g = some q → W p l e (rmN 5) s m args below meth c H locs 0 0 (MQ below (fxQi D (tyM ca) A (wM ad ca q.2) q.1) args s 0 0 A) (F0 m 231 ls []) := by
  have hx := X.1
  have hb := X.2.1
  intro n
  induction n with
  | zero =>
    intro y1 g H locs ls hP hD hS hl h
    cases h
  | succ n ih =>
    intro y1 g H locs ls hP hD hS hl h
    have h := h
    rw [Mod_mount_b231.eq_2] at h
    refine lv_iload_n hx hb d_Mod_mount_231 rfl (lv_at hl 1 rfl) ?_
    refine lv_bipush (v := 20) hx hb d_Mod_mount_232 (by decide) ?_
    refine lv_aload_n hx hb d_Mod_mount_234 rfl (lv_at hl 0 rfl) ?_
    refine gM_mod_entries X hP d_Mod_mount_235 ?_
    refine lv_imul hx hb d_Mod_mount_238 ?_
    refine lv_icmp_ge (tgt := 260) hx hb d_Mod_mount_239 (by decide) (fun hc => ?_) (fun hc => ?_)
    · have h := if_t hc h
      refine lv_aload_n hx hb d_Mod_mount_260 rfl (lv_at hl 0 rfl) ?_
      refine lv_iconst (v := 1) hx hb d_Mod_mount_261 (by decide) ?_
      obtain ⟨g1, e1, h⟩ := nx_some h
      refine uM_mod_mounted X hP hD hS (Or.inr rfl) e1 d_Mod_mount_262 (fun H locs hP hD hS => ?_)
      refine lv_aload_n hx hb d_Mod_mount_265 rfl (lv_at hl 0 rfl) ?_
      obtain ⟨p2, e1, h⟩ := bd_some h
      refine fx_i X (fx_runV (As := []) X (m_Mod_checkpoint e1 _) hP hD kv_Mod_141 ⟨Nat.le_of_ble_eq_true rfl, Nat.le_of_ble_eq_true rfl⟩ 0 rfl rfl rfl hl.1 rfl (Nat.le_of_ble_eq_true rfl) d_Mod_mount_266) hD hS (fun H locs hP hD hS => ?_)
      refine lv_pop hx hb d_Mod_mount_269 rfl ?_
      refine lv_aload_n hx hb d_Mod_mount_270 rfl (lv_at hl 0 rfl) ?_
      refine gM_mod_forward X hP d_Mod_mount_271 ?_
      cases h
      exact fx_iret X hP hD hS d_Mod_mount_274
    · have h := if_f hc h
      refine lv_aload_n hx hb d_Mod_mount_242 rfl (lv_at hl 0 rfl) ?_
      refine gM_mod_entryName X hP d_Mod_mount_243 ?_
      refine lv_iload_n hx hb d_Mod_mount_246 rfl (lv_at hl 1 rfl) ?_
      refine lv_aload_n hx hb d_Mod_mount_247 rfl (lv_at hl 0 rfl) ?_
      refine gM_mod_oldName X hP d_Mod_mount_248 ?_
      refine lv_iload_n hx hb d_Mod_mount_251 rfl (lv_at hl 1 rfl) ?_
      obtain ⟨v3, e1, h⟩ := bd_some h
      refine rM_18 X hP e1 d_Mod_mount_252 ?_
      obtain ⟨g4, e1, h⟩ := bd_some h
      refine sM_14 X hP hD hS e1 d_Mod_mount_253 (fun H locs hP hD hS => ?_)
      refine lv_iinc (k := 1) (v := (y1 + (1 : Int32))) hx hb d_Mod_mount_254 hl rfl (oi_1 _) (by decide) rfl (fun ls hl => ?_)
      have hl : lv_has ls 3 [(1, .int (y1 + (1 : Int32))), (0, .ref (ad 0))] := hl
      refine lv_goto (tgt := 231) hx hb d_Mod_mount_257 (by decide) ?_
      exact ih _ _ _ _ _ hP hD hS (lv_sub hl [1, 0] rfl) h
set_option maxHeartbeats 4000000 in
set_option maxRecDepth 100000 in
theorem v_Mod_mount_179 {p : Program} {l : Launch} {e : Env} {s : State} {m : MethodId} {args : Array Value} {below : List Frame} {meth : Method} {c : Code} {D : va_G} {ad : Nat → Nat} {ca : Nat → ClassId} {A : Nat → Prop} {FU : Nat} {q : Int32 × St} (X : FX p s m meth c prog_12_method_56_code 3 (some .int) "FlashFilesModel" D (tyM ca) A) : ∀ (n : Nat), ∀ (y1 : Int32) (g : St) (H : Heap) (locs : List Loc) (ls : Array Slot), va_P D cls (wM ad ca g) H → va_D A (wM ad ca g) → va_S A s.heap H locs → lv_has ls 3 [(0, .ref (ad 0)), (1, .int y1)] → Mod_mount_b179 FU n y1 g = some q → W p l e (rmN 5) s m args below meth c H locs 0 0 (MQ below (fxQi D (tyM ca) A (wM ad ca q.2) q.1) args s 0 0 A) (F0 m 179 ls []) := by
  have hx := X.1
  have hb := X.2.1
  intro n
  induction n with
  | zero =>
    intro y1 g H locs ls hP hD hS hl h
    cases h
  | succ n ih =>
    intro y1 g H locs ls hP hD hS hl h
    have h := h
    rw [Mod_mount_b179.eq_2] at h
    refine lv_iload_n hx hb d_Mod_mount_179 rfl (lv_at hl 1 rfl) ?_
    refine lv_aload_n hx hb d_Mod_mount_180 rfl (lv_at hl 0 rfl) ?_
    refine gM_mod_entries X hP d_Mod_mount_181 ?_
    refine lv_icmp_ge (tgt := 229) hx hb d_Mod_mount_184 (by decide) (fun hc => ?_) (fun hc => ?_)
    · have h := if_t hc h
      refine lv_iconst (v := 0) hx hb d_Mod_mount_229 (by decide) ?_
      refine lv_istore_n hx hb d_Mod_mount_230 rfl hl (by decide) rfl (fun ls hl => ?_)
      have hl : lv_has ls 3 [(1, .int (0 : Int32)), (0, .ref (ad 0))] := hl
      exact v_Mod_mount_231 X  _ _ _ _ _ _ hP hD hS (lv_sub hl [1, 0] rfl) h
    · have h := if_f hc h
      refine lv_aload_n hx hb d_Mod_mount_187 rfl (lv_at hl 0 rfl) ?_
      refine gM_mod_entryDirectory X hP d_Mod_mount_188 ?_
      refine lv_iload_n hx hb d_Mod_mount_191 rfl (lv_at hl 1 rfl) ?_
      refine lv_aload_n hx hb d_Mod_mount_192 rfl (lv_at hl 0 rfl) ?_
      refine gM_mod_oldDirectory X hP d_Mod_mount_193 ?_
      refine lv_iload_n hx hb d_Mod_mount_196 rfl (lv_at hl 1 rfl) ?_
      obtain ⟨v5, e1, h⟩ := bd_some h
      refine rM_15 X hP e1 d_Mod_mount_197 ?_
      obtain ⟨g6, e1, h⟩ := bd_some h
      refine sM_11 X hP hD hS e1 d_Mod_mount_198 (fun H locs hP hD hS => ?_)
      refine lv_aload_n hx hb d_Mod_mount_199 rfl (lv_at hl 0 rfl) ?_
      refine gM_mod_entryId X hP d_Mod_mount_200 ?_
      refine lv_iload_n hx hb d_Mod_mount_203 rfl (lv_at hl 1 rfl) ?_
      refine lv_aload_n hx hb d_Mod_mount_204 rfl (lv_at hl 0 rfl) ?_
      refine gM_mod_oldId X hP d_Mod_mount_205 ?_
      refine lv_iload_n hx hb d_Mod_mount_208 rfl (lv_at hl 1 rfl) ?_
      obtain ⟨v7, e1, h⟩ := bd_some h
      refine rM_16 X hP e1 d_Mod_mount_209 ?_
      obtain ⟨g8, e1, h⟩ := bd_some h
      refine sM_12 X hP hD hS e1 d_Mod_mount_210 (fun H locs hP hD hS => ?_)
      refine lv_aload_n hx hb d_Mod_mount_211 rfl (lv_at hl 0 rfl) ?_
      refine gM_mod_entryLength X hP d_Mod_mount_212 ?_
      refine lv_iload_n hx hb d_Mod_mount_215 rfl (lv_at hl 1 rfl) ?_
      refine lv_aload_n hx hb d_Mod_mount_216 rfl (lv_at hl 0 rfl) ?_
      refine gM_mod_oldLength X hP d_Mod_mount_217 ?_
      refine lv_iload_n hx hb d_Mod_mount_220 rfl (lv_at hl 1 rfl) ?_
      obtain ⟨v9, e1, h⟩ := bd_some h
      refine rM_17 X hP e1 d_Mod_mount_221 ?_
      obtain ⟨g10, e1, h⟩ := bd_some h
      refine sM_13 X hP hD hS e1 d_Mod_mount_222 (fun H locs hP hD hS => ?_)
      refine lv_iinc (k := 1) (v := (y1 + (1 : Int32))) hx hb d_Mod_mount_223 hl rfl (oi_1 _) (by decide) rfl (fun ls hl => ?_)
      have hl : lv_has ls 3 [(1, .int (y1 + (1 : Int32))), (0, .ref (ad 0))] := hl
      refine lv_goto (tgt := 179) hx hb d_Mod_mount_226 (by decide) ?_
      exact ih _ _ _ _ _ hP hD hS (lv_sub hl [1, 0] rfl) h
set_option maxHeartbeats 4000000 in
set_option maxRecDepth 100000 in
theorem v_Mod_mount_159 {p : Program} {l : Launch} {e : Env} {s : State} {m : MethodId} {args : Array Value} {below : List Frame} {meth : Method} {c : Code} {D : va_G} {ad : Nat → Nat} {ca : Nat → ClassId} {A : Nat → Prop} {FU : Nat} {q : Int32 × St} (X : FX p s m meth c prog_12_method_56_code 3 (some .int) "FlashFilesModel" D (tyM ca) A) {k36 : Int32 → St → Option (Int32 × St)} (hk36 : ∀ (y1 : Int32) (g : St) (H : Heap) (locs : List Loc) (ls : Array Slot), va_P D cls (wM ad ca g) H → va_D A (wM ad ca g) → va_S A s.heap H locs → lv_has ls 3 [(0, .ref (ad 0)), (1, .int y1)] → k36 y1 g = some q → W p l e (rmN 5) s m args below meth c H locs 0 0 (MQ below (fxQi D (tyM ca) A (wM ad ca q.2) q.1) args s 0 0 A) (F0 m 36 ls [])) {y1 : Int32} {z0 : Int32} {z1 : Int32} {g : St} {H : Heap} {locs : List Loc} {ls : Array Slot} (hP : va_P D cls (wM ad ca g) H) (hD : va_D A (wM ad ca g)) (hS : va_S A s.heap H locs) (hl : lv_has ls 3 [(0, .ref (ad 0)), (1, .int y1)]) (h : Mod_mount_b159 FU k36 y1 z0 z1 g = some q) : W p l e (rmN 5) s m args below meth c H locs 0 0 (MQ below (fxQi D (tyM ca) A (wM ad ca q.2) q.1) args s 0 0 A) (F0 m 159 ls [.int z0, .int z1, .ref (ad 0)]) := by
  have hx := X.1
  have hb := X.2.1
  unfold Mod_mount_b159 at h
  refine lv_iadd hx hb d_Mod_mount_159 ?_
  obtain ⟨g11, e1, h⟩ := nx_some h
  refine uM_mod_forward X hP hD hS e1 d_Mod_mount_160 (fun H locs hP hD hS => ?_)
  refine lv_iinc (k := 1) (v := (y1 + (1 : Int32))) hx hb d_Mod_mount_163 hl rfl (oi_1 _) (by decide) rfl (fun ls hl => ?_)
  have hl : lv_has ls 3 [(1, .int (y1 + (1 : Int32))), (0, .ref (ad 0))] := hl
  refine lv_goto (tgt := 36) hx hb d_Mod_mount_166 (by decide) ?_
  exact hk36 _ _ _ _ _ hP hD hS (lv_sub hl [1, 0] rfl) h
set_option maxHeartbeats 4000000 in
set_option maxRecDepth 100000 in
theorem v_Mod_mount_145 {p : Program} {l : Launch} {e : Env} {s : State} {m : MethodId} {args : Array Value} {below : List Frame} {meth : Method} {c : Code} {D : va_G} {ad : Nat → Nat} {ca : Nat → ClassId} {A : Nat → Prop} {FU : Nat} {q : Int32 × St} (X : FX p s m meth c prog_12_method_56_code 3 (some .int) "FlashFilesModel" D (tyM ca) A) {k36 : Int32 → St → Option (Int32 × St)} (hk36 : ∀ (y1 : Int32) (g : St) (H : Heap) (locs : List Loc) (ls : Array Slot), va_P D cls (wM ad ca g) H → va_D A (wM ad ca g) → va_S A s.heap H locs → lv_has ls 3 [(0, .ref (ad 0)), (1, .int y1)] → k36 y1 g = some q → W p l e (rmN 5) s m args below meth c H locs 0 0 (MQ below (fxQi D (tyM ca) A (wM ad ca q.2) q.1) args s 0 0 A) (F0 m 36 ls [])) {y1 : Int32} {y2 : Int32} {g : St} {H : Heap} {locs : List Loc} {ls : Array Slot} (hP : va_P D cls (wM ad ca g) H) (hD : va_D A (wM ad ca g)) (hS : va_S A s.heap H locs) (hl : lv_has ls 3 [(0, .ref (ad 0)), (1, .int y1), (2, .int y2)]) (h : Mod_mount_b145 FU k36 y1 y2 g = some q) : W p l e (rmN 5) s m args below meth c H locs 0 0 (MQ below (fxQi D (tyM ca) A (wM ad ca q.2) q.1) args s 0 0 A) (F0 m 145 ls []) := by
  have hx := X.1
  have hb := X.2.1
  unfold Mod_mount_b145 at h
  refine lv_aload_n hx hb d_Mod_mount_145 rfl (lv_at hl 0 rfl) ?_
  refine lv_dup hx hb d_Mod_mount_146 rfl ?_
  refine gM_mod_forward X hP d_Mod_mount_147 ?_
  refine lv_iload_n hx hb d_Mod_mount_150 rfl (lv_at hl 2 rfl) ?_
  refine lv_if_eq (tgt := 158) hx hb d_Mod_mount_151 (by decide) (fun hc => ?_) (fun hc => ?_)
  · have h := if_t hc h
    refine lv_iconst (v := 0) hx hb d_Mod_mount_158 (by decide) ?_
    exact v_Mod_mount_159 X hk36 hP hD hS (lv_sub hl [0, 1] rfl) h
  · have h := if_f hc h
    refine lv_iconst (v := 1) hx hb d_Mod_mount_154 (by decide) ?_
    refine lv_goto (tgt := 159) hx hb d_Mod_mount_155 (by decide) ?_
    exact v_Mod_mount_159 X hk36 hP hD hS (lv_sub hl [0, 1] rfl) h
set_option maxHeartbeats 4000000 in
set_option maxRecDepth 100000 in
theorem v_Mod_mount_141 {p : Program} {l : Launch} {e : Env} {s : State} {m : MethodId} {args : Array Value} {below : List Frame} {meth : Method} {c : Code} {D : va_G} {ad : Nat → Nat} {ca : Nat → ClassId} {A : Nat → Prop} {FU : Nat} {q : Int32 × St} (X : FX p s m meth c prog_12_method_56_code 3 (some .int) "FlashFilesModel" D (tyM ca) A) {k36 : Int32 → St → Option (Int32 × St)} (hk36 : ∀ (y1 : Int32) (g : St) (H : Heap) (locs : List Loc) (ls : Array Slot), va_P D cls (wM ad ca g) H → va_D A (wM ad ca g) → va_S A s.heap H locs → lv_has ls 3 [(0, .ref (ad 0)), (1, .int y1)] → k36 y1 g = some q → W p l e (rmN 5) s m args below meth c H locs 0 0 (MQ below (fxQi D (tyM ca) A (wM ad ca q.2) q.1) args s 0 0 A) (F0 m 36 ls [])) {y1 : Int32} {y2 : Int32} {z0 : Int32} {z1 : Int32} {g : St} {H : Heap} {locs : List Loc} {ls : Array Slot} (hP : va_P D cls (wM ad ca g) H) (hD : va_D A (wM ad ca g)) (hS : va_S A s.heap H locs) (hl : lv_has ls 3 [(0, .ref (ad 0)), (1, .int y1), (2, .int y2)]) (h : Mod_mount_b141 FU k36 y1 y2 z0 z1 g = some q) : W p l e (rmN 5) s m args below meth c H locs 0 0 (MQ below (fxQi D (tyM ca) A (wM ad ca q.2) q.1) args s 0 0 A) (F0 m 141 ls [.int z0, .int z1, .ref (ad 0)]) := by
  have hx := X.1
  have hb := X.2.1
  unfold Mod_mount_b141 at h
  refine lv_iconst (v := 0) hx hb d_Mod_mount_141 (by decide) ?_
  obtain ⟨p12, e1, h⟩ := bd_some h
  refine fx_v X (fx_runV (As := [.int z1, .int z0, .int (0 : Int32)]) X (m_Mod_copyFile e1 _) hP hD kv_Mod_115 ⟨Nat.le_of_ble_eq_true rfl, Nat.le_of_ble_eq_true rfl⟩ 0 rfl rfl rfl hl.1 rfl (Nat.le_of_ble_eq_true rfl) d_Mod_mount_142) hD hS (fun H locs hP hD hS => ?_)
  exact v_Mod_mount_145 X hk36 hP hD hS (lv_sub hl [0, 1, 2] rfl) h
set_option maxHeartbeats 4000000 in
set_option maxRecDepth 100000 in
theorem v_Mod_mount_88 {p : Program} {l : Launch} {e : Env} {s : State} {m : MethodId} {args : Array Value} {below : List Frame} {meth : Method} {c : Code} {D : va_G} {ad : Nat → Nat} {ca : Nat → ClassId} {A : Nat → Prop} {FU : Nat} {q : Int32 × St} (X : FX p s m meth c prog_12_method_56_code 3 (some .int) "FlashFilesModel" D (tyM ca) A) {k36 : Int32 → St → Option (Int32 × St)} (hk36 : ∀ (y1 : Int32) (g : St) (H : Heap) (locs : List Loc) (ls : Array Slot), va_P D cls (wM ad ca g) H → va_D A (wM ad ca g) → va_S A s.heap H locs → lv_has ls 3 [(0, .ref (ad 0)), (1, .int y1)] → k36 y1 g = some q → W p l e (rmN 5) s m args below meth c H locs 0 0 (MQ below (fxQi D (tyM ca) A (wM ad ca q.2) q.1) args s 0 0 A) (F0 m 36 ls [])) {y1 : Int32} {y2 : Int32} {g : St} {H : Heap} {locs : List Loc} {ls : Array Slot} (hP : va_P D cls (wM ad ca g) H) (hD : va_D A (wM ad ca g)) (hS : va_S A s.heap H locs) (hl : lv_has ls 3 [(0, .ref (ad 0)), (1, .int y1), (2, .int y2)]) (h : Mod_mount_b88 FU k36 y1 y2 g = some q) : W p l e (rmN 5) s m args below meth c H locs 0 0 (MQ below (fxQi D (tyM ca) A (wM ad ca q.2) q.1) args s 0 0 A) (F0 m 88 ls []) := by
  have hx := X.1
  have hb := X.2.1
  unfold Mod_mount_b88 at h
  refine lv_aload_n hx hb d_Mod_mount_88 rfl (lv_at hl 0 rfl) ?_
  refine gM_mod_kind X hP d_Mod_mount_89 ?_
  refine lv_iload_n hx hb d_Mod_mount_92 rfl (lv_at hl 1 rfl) ?_
  refine lv_aload_n hx hb d_Mod_mount_93 rfl (lv_at hl 0 rfl) ?_
  refine gM_mod_kind X hP d_Mod_mount_94 ?_
  refine lv_sipush (v := 251) hx hb d_Mod_mount_97 (by decide) ?_
  refine lv_iload_n hx hb d_Mod_mount_100 rfl (lv_at hl 1 rfl) ?_
  refine lv_iadd hx hb d_Mod_mount_101 ?_
  obtain ⟨v13, e1, h⟩ := bd_some h
  refine rM_2 X hP e1 d_Mod_mount_102 ?_
  obtain ⟨g14, e1, h⟩ := bd_some h
  refine sM_2 X hP hD hS e1 d_Mod_mount_103 (fun H locs hP hD hS => ?_)
  refine lv_aload_n hx hb d_Mod_mount_104 rfl (lv_at hl 0 rfl) ?_
  refine gM_mod_links X hP d_Mod_mount_105 ?_
  refine lv_iload_n hx hb d_Mod_mount_108 rfl (lv_at hl 1 rfl) ?_
  refine lv_aload_n hx hb d_Mod_mount_109 rfl (lv_at hl 0 rfl) ?_
  refine gM_mod_links X hP d_Mod_mount_110 ?_
  refine lv_sipush (v := 251) hx hb d_Mod_mount_113 (by decide) ?_
  refine lv_iload_n hx hb d_Mod_mount_116 rfl (lv_at hl 1 rfl) ?_
  refine lv_iadd hx hb d_Mod_mount_117 ?_
  obtain ⟨v15, e1, h⟩ := bd_some h
  refine rM_4 X hP e1 d_Mod_mount_118 ?_
  obtain ⟨g16, e1, h⟩ := bd_some h
  refine sM_4 X hP hD hS e1 d_Mod_mount_119 (fun H locs hP hD hS => ?_)
  refine lv_aload_n hx hb d_Mod_mount_120 rfl (lv_at hl 0 rfl) ?_
  refine gM_mod_kind X hP d_Mod_mount_121 ?_
  refine lv_iload_n hx hb d_Mod_mount_124 rfl (lv_at hl 1 rfl) ?_
  obtain ⟨v17, e1, h⟩ := bd_some h
  refine rM_2 X hP e1 d_Mod_mount_125 ?_
  refine lv_iconst (v := 1) hx hb d_Mod_mount_126 (by decide) ?_
  refine lv_icmp_ne (tgt := 145) hx hb d_Mod_mount_127 (by decide) (fun hc => ?_) (fun hc => ?_)
  · have h := if_f hc h
    exact v_Mod_mount_145 X hk36 hP hD hS (lv_sub hl [0, 1, 2] rfl) h
  · have h := if_t hc h
    refine lv_aload_n hx hb d_Mod_mount_130 rfl (lv_at hl 0 rfl) ?_
    refine lv_iload_n hx hb d_Mod_mount_131 rfl (lv_at hl 1 rfl) ?_
    refine lv_iload_n hx hb d_Mod_mount_132 rfl (lv_at hl 2 rfl) ?_
    refine lv_if_eq (tgt := 140) hx hb d_Mod_mount_133 (by decide) (fun hc => ?_) (fun hc => ?_)
    · have h := if_t hc h
      refine lv_iconst (v := 1) hx hb d_Mod_mount_140 (by decide) ?_
      exact v_Mod_mount_141 X hk36 hP hD hS (lv_sub hl [0, 1, 2] rfl) h
    · have h := if_f hc h
      refine lv_iconst (v := 2) hx hb d_Mod_mount_136 (by decide) ?_
      refine lv_goto (tgt := 141) hx hb d_Mod_mount_137 (by decide) ?_
      exact v_Mod_mount_141 X hk36 hP hD hS (lv_sub hl [0, 1, 2] rfl) h
set_option maxHeartbeats 4000000 in
set_option maxRecDepth 100000 in
theorem v_Mod_mount_71 {p : Program} {l : Launch} {e : Env} {s : State} {m : MethodId} {args : Array Value} {below : List Frame} {meth : Method} {c : Code} {D : va_G} {ad : Nat → Nat} {ca : Nat → ClassId} {A : Nat → Prop} {FU : Nat} {q : Int32 × St} (X : FX p s m meth c prog_12_method_56_code 3 (some .int) "FlashFilesModel" D (tyM ca) A) {k36 : Int32 → St → Option (Int32 × St)} (hk36 : ∀ (y1 : Int32) (g : St) (H : Heap) (locs : List Loc) (ls : Array Slot), va_P D cls (wM ad ca g) H → va_D A (wM ad ca g) → va_S A s.heap H locs → lv_has ls 3 [(0, .ref (ad 0)), (1, .int y1)] → k36 y1 g = some q → W p l e (rmN 5) s m args below meth c H locs 0 0 (MQ below (fxQi D (tyM ca) A (wM ad ca q.2) q.1) args s 0 0 A) (F0 m 36 ls [])) {y1 : Int32} {z0 : Int32} {g : St} {H : Heap} {locs : List Loc} {ls : Array Slot} (hP : va_P D cls (wM ad ca g) H) (hD : va_D A (wM ad ca g)) (hS : va_S A s.heap H locs) (hl : lv_has ls 3 [(0, .ref (ad 0)), (1, .int y1)]) (h : Mod_mount_b71 FU k36 y1 z0 g = some q) : W p l e (rmN 5) s m args below meth c H locs 0 0 (MQ below (fxQi D (tyM ca) A (wM ad ca q.2) q.1) args s 0 0 A) (F0 m 71 ls [.int z0]) := by
  have hx := X.1
  have hb := X.2.1
  unfold Mod_mount_b71 at h
  refine lv_istore_n hx hb d_Mod_mount_71 rfl hl (by decide) rfl (fun ls hl => ?_)
  have hl : lv_has ls 3 [(2, .int z0), (0, .ref (ad 0)), (1, .int y1)] := hl
  refine lv_aload_n hx hb d_Mod_mount_72 rfl (lv_at hl 1 rfl) ?_
  refine gM_mod_kind X hP d_Mod_mount_73 ?_
  refine lv_iload_n hx hb d_Mod_mount_76 rfl (lv_at hl 2 rfl) ?_
  obtain ⟨v18, e1, h⟩ := bd_some h
  refine rM_2 X hP e1 d_Mod_mount_77 ?_
  refine lv_iconst (v := 1) hx hb d_Mod_mount_78 (by decide) ?_
  refine lv_icmp_ne (tgt := 88) hx hb d_Mod_mount_79 (by decide) (fun hc => ?_) (fun hc => ?_)
  · have h := if_f hc h
    exact v_Mod_mount_88 X hk36 hP hD hS (lv_sub hl [1, 2, 0] rfl) h
  · have h := if_t hc h
    refine lv_aload_n hx hb d_Mod_mount_82 rfl (lv_at hl 1 rfl) ?_
    refine lv_iload_n hx hb d_Mod_mount_83 rfl (lv_at hl 2 rfl) ?_
    refine lv_iconst (v := 0) hx hb d_Mod_mount_84 (by decide) ?_
    obtain ⟨p19, e1, h⟩ := bd_some h
    refine fx_v X (fx_runV (As := [.int y1, .int (0 : Int32)]) X (m_Mod_drop e1 _) hP hD kv_Mod_119 ⟨Nat.le_of_ble_eq_true rfl, Nat.le_of_ble_eq_true rfl⟩ 0 rfl rfl rfl hl.1 rfl (Nat.le_of_ble_eq_true rfl) d_Mod_mount_85) hD hS (fun H locs hP hD hS => ?_)
    exact v_Mod_mount_88 X hk36 hP hD hS (lv_sub hl [1, 2, 0] rfl) h
set_option maxHeartbeats 4000000 in
set_option maxRecDepth 100000 in
theorem v_Mod_mount_70 {p : Program} {l : Launch} {e : Env} {s : State} {m : MethodId} {args : Array Value} {below : List Frame} {meth : Method} {c : Code} {D : va_G} {ad : Nat → Nat} {ca : Nat → ClassId} {A : Nat → Prop} {FU : Nat} {q : Int32 × St} (X : FX p s m meth c prog_12_method_56_code 3 (some .int) "FlashFilesModel" D (tyM ca) A) {k36 : Int32 → St → Option (Int32 × St)} (hk36 : ∀ (y1 : Int32) (g : St) (H : Heap) (locs : List Loc) (ls : Array Slot), va_P D cls (wM ad ca g) H → va_D A (wM ad ca g) → va_S A s.heap H locs → lv_has ls 3 [(0, .ref (ad 0)), (1, .int y1)] → k36 y1 g = some q → W p l e (rmN 5) s m args below meth c H locs 0 0 (MQ below (fxQi D (tyM ca) A (wM ad ca q.2) q.1) args s 0 0 A) (F0 m 36 ls [])) {y1 : Int32} {g : St} {H : Heap} {locs : List Loc} {ls : Array Slot} (hP : va_P D cls (wM ad ca g) H) (hD : va_D A (wM ad ca g)) (hS : va_S A s.heap H locs) (hl : lv_has ls 3 [(0, .ref (ad 0)), (1, .int y1)]) (h : Mod_mount_b70 FU k36 y1 g = some q) : W p l e (rmN 5) s m args below meth c H locs 0 0 (MQ below (fxQi D (tyM ca) A (wM ad ca q.2) q.1) args s 0 0 A) (F0 m 70 ls []) := by
  have hx := X.1
  have hb := X.2.1
  unfold Mod_mount_b70 at h
  refine lv_iconst (v := 0) hx hb d_Mod_mount_70 (by decide) ?_
  exact v_Mod_mount_71 X hk36 hP hD hS (lv_sub hl [0, 1] rfl) h
set_option maxHeartbeats 4000000 in
set_option maxRecDepth 100000 in
theorem v_Mod_mount_36 {p : Program} {l : Launch} {e : Env} {s : State} {m : MethodId} {args : Array Value} {below : List Frame} {meth : Method} {c : Code} {D : va_G} {ad : Nat → Nat} {ca : Nat → ClassId} {A : Nat → Prop} {FU : Nat} {q : Int32 × St} (X : FX p s m meth c prog_12_method_56_code 3 (some .int) "FlashFilesModel" D (tyM ca) A) : ∀ (n : Nat), ∀ (y1 : Int32) (g : St) (H : Heap) (locs : List Loc) (ls : Array Slot), va_P D cls (wM ad ca g) H → va_D A (wM ad ca g) → va_S A s.heap H locs → lv_has ls 3 [(0, .ref (ad 0)), (1, .int y1)] → Mod_mount_b36 FU n y1 g = some q → W p l e (rmN 5) s m args below meth c H locs 0 0 (MQ below (fxQi D (tyM ca) A (wM ad ca q.2) q.1) args s 0 0 A) (F0 m 36 ls []) := by
  have hx := X.1
  have hb := X.2.1
  intro n
  induction n with
  | zero =>
    intro y1 g H locs ls hP hD hS hl h
    cases h
  | succ n ih =>
    intro y1 g H locs ls hP hD hS hl h
    have h := h
    rw [Mod_mount_b36.eq_2] at h
    refine lv_iload_n hx hb d_Mod_mount_36 rfl (lv_at hl 1 rfl) ?_
    refine lv_sipush (v := 250) hx hb d_Mod_mount_37 (by decide) ?_
    refine lv_icmp_gt (tgt := 169) hx hb d_Mod_mount_40 (by decide) (fun hc => ?_) (fun hc => ?_)
    · have h := if_t hc h
      refine lv_aload_n hx hb d_Mod_mount_169 rfl (lv_at hl 0 rfl) ?_
      refine lv_aload_n hx hb d_Mod_mount_170 rfl (lv_at hl 0 rfl) ?_
      refine gM_mod_oldEntries X hP d_Mod_mount_171 ?_
      obtain ⟨g20, e1, h⟩ := nx_some h
      refine uM_mod_entries X hP hD hS e1 d_Mod_mount_174 (fun H locs hP hD hS => ?_)
      refine lv_iconst (v := 0) hx hb d_Mod_mount_177 (by decide) ?_
      refine lv_istore_n hx hb d_Mod_mount_178 rfl hl (by decide) rfl (fun ls hl => ?_)
      have hl : lv_has ls 3 [(1, .int (0 : Int32)), (0, .ref (ad 0))] := hl
      exact v_Mod_mount_179 X  _ _ _ _ _ _ hP hD hS (lv_sub hl [1, 0] rfl) h
    · have h := if_f hc h
      refine lv_aload_n hx hb d_Mod_mount_43 rfl (lv_at hl 0 rfl) ?_
      refine gM_mod_synced X hP d_Mod_mount_44 ?_
      refine lv_iload_n hx hb d_Mod_mount_47 rfl (lv_at hl 1 rfl) ?_
      obtain ⟨v21, e1, h⟩ := bd_some h
      refine rM_6 X hP e1 d_Mod_mount_48 ?_
      refine lv_if_eq (tgt := 70) hx hb d_Mod_mount_49 (by decide) (fun hc => ?_) (fun hc => ?_)
      · have h := if_t hc h
        exact v_Mod_mount_70 X ih hP hD hS (lv_sub hl [0, 1] rfl) h
      · have h := if_f hc h
        refine lv_aload_n hx hb d_Mod_mount_52 rfl (lv_at hl 0 rfl) ?_
        refine gM_mod_kind X hP d_Mod_mount_53 ?_
        refine lv_sipush (v := 251) hx hb d_Mod_mount_56 (by decide) ?_
        refine lv_iload_n hx hb d_Mod_mount_59 rfl (lv_at hl 1 rfl) ?_
        refine lv_iadd hx hb d_Mod_mount_60 ?_
        obtain ⟨v22, e1, h⟩ := bd_some h
        refine rM_2 X hP e1 d_Mod_mount_61 ?_
        refine lv_iconst (v := 1) hx hb d_Mod_mount_62 (by decide) ?_
        refine lv_icmp_ne (tgt := 70) hx hb d_Mod_mount_63 (by decide) (fun hc => ?_) (fun hc => ?_)
        · have h := if_f hc h
          exact v_Mod_mount_70 X ih hP hD hS (lv_sub hl [0, 1] rfl) h
        · have h := if_t hc h
          refine lv_iconst (v := 1) hx hb d_Mod_mount_66 (by decide) ?_
          refine lv_goto (tgt := 71) hx hb d_Mod_mount_67 (by decide) ?_
          exact v_Mod_mount_71 X ih hP hD hS (lv_sub hl [0, 1] rfl) h
set_option maxHeartbeats 4000000 in
set_option maxRecDepth 100000 in
theorem v_Mod_mount_20 {p : Program} {l : Launch} {e : Env} {s : State} {m : MethodId} {args : Array Value} {below : List Frame} {meth : Method} {c : Code} {D : va_G} {ad : Nat → Nat} {ca : Nat → ClassId} {A : Nat → Prop} {FU : Nat} {q : Int32 × St} (X : FX p s m meth c prog_12_method_56_code 3 (some .int) "FlashFilesModel" D (tyM ca) A) {z0 : Int32} {g : St} {H : Heap} {locs : List Loc} {ls : Array Slot} (hP : va_P D cls (wM ad ca g) H) (hD : va_D A (wM ad ca g)) (hS : va_S A s.heap H locs) (hl : lv_has ls 3 [(0, .ref (ad 0))]) (h : Mod_mount_b20 FU z0 g = some q) : W p l e (rmN 5) s m args below meth c H locs 0 0 (MQ below (fxQi D (tyM ca) A (wM ad ca q.2) q.1) args s 0 0 A) (F0 m 20 ls [.int z0, .ref (ad 0)]) := by
  have hx := X.1
  have hb := X.2.1
  unfold Mod_mount_b20 at h
  refine lv_iconst (v := 0) hx hb d_Mod_mount_20 (by decide) ?_
  obtain ⟨p23, e1, h⟩ := bd_some h
  refine fx_i X (fx_runV (As := [.int z0, .int (0 : Int32)]) X (m_Mod_throwing e1 _) hP hD kv_Mod_148 ⟨Nat.le_of_ble_eq_true rfl, Nat.le_of_ble_eq_true rfl⟩ 0 rfl rfl rfl hl.1 rfl (Nat.le_of_ble_eq_true rfl) d_Mod_mount_21) hD hS (fun H locs hP hD hS => ?_)
  refine lv_if_eq (tgt := 29) hx hb d_Mod_mount_24 (by decide) (fun hc => ?_) (fun hc => ?_)
  · have h := if_t hc h
    refine lv_aload_n hx hb d_Mod_mount_29 rfl (lv_at hl 0 rfl) ?_
    refine lv_iconst (v := 0) hx hb d_Mod_mount_30 (by decide) ?_
    obtain ⟨g24, e1, h⟩ := nx_some h
    refine uM_mod_forward X hP hD hS e1 d_Mod_mount_31 (fun H locs hP hD hS => ?_)
    refine lv_iconst (v := 1) hx hb d_Mod_mount_34 (by decide) ?_
    refine lv_istore_n hx hb d_Mod_mount_35 rfl hl (by decide) rfl (fun ls hl => ?_)
    have hl : lv_has ls 3 [(1, .int (1 : Int32)), (0, .ref (ad 0))] := hl
    exact v_Mod_mount_36 X  _ _ _ _ _ _ hP hD hS (lv_sub hl [1, 0] rfl) h
  · have h := if_f hc h
    refine lv_iconst (v := 0) hx hb d_Mod_mount_27 (by decide) ?_
    cases h
    exact fx_iret X hP hD hS d_Mod_mount_28
set_option maxHeartbeats 4000000 in
set_option maxRecDepth 100000 in
theorem v_Mod_mount_15 {p : Program} {l : Launch} {e : Env} {s : State} {m : MethodId} {args : Array Value} {below : List Frame} {meth : Method} {c : Code} {D : va_G} {ad : Nat → Nat} {ca : Nat → ClassId} {A : Nat → Prop} {FU : Nat} {q : Int32 × St} (X : FX p s m meth c prog_12_method_56_code 3 (some .int) "FlashFilesModel" D (tyM ca) A)  {g : St} {H : Heap} {locs : List Loc} {ls : Array Slot} (hP : va_P D cls (wM ad ca g) H) (hD : va_D A (wM ad ca g)) (hS : va_S A s.heap H locs) (hl : lv_has ls 3 [(0, .ref (ad 0))]) (h : Mod_mount_b15 FU g = some q) : W p l e (rmN 5) s m args below meth c H locs 0 0 (MQ below (fxQi D (tyM ca) A (wM ad ca q.2) q.1) args s 0 0 A) (F0 m 15 ls [.ref (ad 0)]) := by
  have hx := X.1
  have hb := X.2.1
  unfold Mod_mount_b15 at h
  refine lv_iconst (v := 1) hx hb d_Mod_mount_15 (by decide) ?_
  refine lv_goto (tgt := 20) hx hb d_Mod_mount_16 (by decide) ?_
  exact v_Mod_mount_20 X  hP hD hS (lv_sub hl [0] rfl) h
set_option maxHeartbeats 4000000 in
set_option maxRecDepth 100000 in
theorem m_Mod_mount {l : Launch} {D : va_G} {ad : Nat → Nat} {ca : Nat → ClassId} {FU : Nat} {g : St} {q : Int32 × St} (h : Mod_mount FU  g = some q) : CI l ⟨"FlashFilesModel", "mount", "()I"⟩ prog_12_method_56_code 3 5 (some .int) D (tyM ca) (wM ad ca g) [.ref (ad 0)] q.1 (wM ad ca q.2) := by
  intro sz
  refine Met.fx (Qc := fun A => fxQi D (tyM ca) A (wM ad ca q.2) q.1) (by decide) (Nat.le_of_ble_eq_true rfl) ?_
  intro p e s m below meth c A ls X hP hD hl
  have hl : lv_has ls 3 [(0, .ref (ad 0))] := hl
  have hS : va_S A s.heap s.heap [] := va_S.rf
  have hx := X.1
  have hb := X.2.1
  unfold Mod_mount at h
  refine lv_aload_n hx hb d_Mod_mount_0 rfl (lv_at hl 0 rfl) ?_
  refine lv_aload_n hx hb d_Mod_mount_1 rfl (lv_at hl 0 rfl) ?_
  refine gM_mod_device X hP d_Mod_mount_2 ?_
  refine lv_if_eq (tgt := 15) hx hb d_Mod_mount_5 (by decide) (fun hc => ?_) (fun hc => ?_)
  · have h := if_t hc h
    exact v_Mod_mount_15 X  hP hD hS (lv_sub hl [0] rfl) h
  · have h := if_f hc h
    refine lv_aload_n hx hb d_Mod_mount_8 rfl (lv_at hl 0 rfl) ?_
    refine gM_mod_mounted X hP d_Mod_mount_9 ?_
    refine lv_if_eq (tgt := 19) hx hb d_Mod_mount_12 (by decide) (fun hc => ?_) (fun hc => ?_)
    · have h := if_t hc h
      refine lv_iconst (v := 0) hx hb d_Mod_mount_19 (by decide) ?_
      exact v_Mod_mount_20 X  hP hD hS (lv_sub hl [0] rfl) h
    · have h := if_f hc h
      exact v_Mod_mount_15 X  hP hD hS (lv_sub hl [0] rfl) h
theorem d_Mod_clean_0 : decode prog_12_method_57_code 0 = .ok (.aload_n 0, 1) := by decide +kernel
theorem d_Mod_clean_1 : decode prog_12_method_57_code 1 = .ok (.aload_n 0, 1) := by decide +kernel
theorem d_Mod_clean_2 : decode prog_12_method_57_code 2 = .ok (.getfield 107, 3) := by decide +kernel
theorem d_Mod_clean_5 : decode prog_12_method_57_code 5 = .ok (.ifCond .ne 7, 3) := by decide +kernel
theorem d_Mod_clean_8 : decode prog_12_method_57_code 8 = .ok (.iconst 1, 1) := by decide +kernel
theorem d_Mod_clean_9 : decode prog_12_method_57_code 9 = .ok (.goto 4, 3) := by decide +kernel
theorem d_Mod_clean_12 : decode prog_12_method_57_code 12 = .ok (.iconst 0, 1) := by decide +kernel
theorem d_Mod_clean_13 : decode prog_12_method_57_code 13 = .ok (.iconst 0, 1) := by decide +kernel
theorem d_Mod_clean_14 : decode prog_12_method_57_code 14 = .ok (.invokevirtual 148, 3) := by decide +kernel
theorem d_Mod_clean_17 : decode prog_12_method_57_code 17 = .ok (.pop, 1) := by decide +kernel
theorem d_Mod_clean_18 : decode prog_12_method_57_code 18 = .ok (.return_, 1) := by decide +kernel
set_option maxHeartbeats 4000000 in
set_option maxRecDepth 100000 in
theorem v_Mod_clean_13 {p : Program} {l : Launch} {e : Env} {s : State} {m : MethodId} {args : Array Value} {below : List Frame} {meth : Method} {c : Code} {D : va_G} {ad : Nat → Nat} {ca : Nat → ClassId} {A : Nat → Prop} {FU : Nat} {q : St} (X : FX p s m meth c prog_12_method_57_code 1 none "FlashFilesModel" D (tyM ca) A) {z0 : Int32} {g : St} {H : Heap} {locs : List Loc} {ls : Array Slot} (hP : va_P D cls (wM ad ca g) H) (hD : va_D A (wM ad ca g)) (hS : va_S A s.heap H locs) (hl : lv_has ls 1 []) (h : Mod_clean_b13 FU z0 g = some q) : W p l e (rmN 2) s m args below meth c H locs 0 0 (MQ below (fxQv D (tyM ca) A (wM ad ca q)) args s 0 0 A) (F0 m 13 ls [.int z0, .ref (ad 0)]) := by
  have hx := X.1
  have hb := X.2.1
  unfold Mod_clean_b13 at h
  refine lv_iconst (v := 0) hx hb d_Mod_clean_13 (by decide) ?_
  obtain ⟨p1, e1, h⟩ := bd_some h
  refine fx_i X (fx_runV (As := [.int z0, .int (0 : Int32)]) X (m_Mod_throwing e1 _) hP hD kv_Mod_148 ⟨Nat.le_of_ble_eq_true rfl, Nat.le_of_ble_eq_true rfl⟩ 0 rfl rfl rfl hl.1 rfl (Nat.le_of_ble_eq_true rfl) d_Mod_clean_14) hD hS (fun H locs hP hD hS => ?_)
  refine lv_pop hx hb d_Mod_clean_17 rfl ?_
  cases h
  exact fx_vret X hP hD hS d_Mod_clean_18
set_option maxHeartbeats 4000000 in
set_option maxRecDepth 100000 in
theorem m_Mod_clean {l : Launch} {D : va_G} {ad : Nat → Nat} {ca : Nat → ClassId} {FU : Nat} {g : St} {q : St} (h : Mod_clean FU  g = some q) : CV l ⟨"FlashFilesModel", "clean", "()V"⟩ prog_12_method_57_code 1 2 D (tyM ca) (wM ad ca g) [.ref (ad 0)] (wM ad ca q) := by
  intro sz
  refine Met.fx (Qc := fun A => fxQv D (tyM ca) A (wM ad ca q)) (by decide) (Nat.le_of_ble_eq_true rfl) ?_
  intro p e s m below meth c A ls X hP hD hl
  have hl : lv_has ls 1 [(0, .ref (ad 0))] := hl
  have hS : va_S A s.heap s.heap [] := va_S.rf
  have hx := X.1
  have hb := X.2.1
  unfold Mod_clean at h
  refine lv_aload_n hx hb d_Mod_clean_0 rfl (lv_at hl 0 rfl) ?_
  refine lv_aload_n hx hb d_Mod_clean_1 rfl (lv_at hl 0 rfl) ?_
  refine gM_mod_mounted X hP d_Mod_clean_2 ?_
  refine lv_if_ne (tgt := 12) hx hb d_Mod_clean_5 (by decide) (fun hc => ?_) (fun hc => ?_)
  · have h := if_f hc h
    refine lv_iconst (v := 0) hx hb d_Mod_clean_12 (by decide) ?_
    exact v_Mod_clean_13 X  hP hD hS (lv_sub hl [] rfl) h
  · have h := if_t hc h
    refine lv_iconst (v := 1) hx hb d_Mod_clean_8 (by decide) ?_
    refine lv_goto (tgt := 13) hx hb d_Mod_clean_9 (by decide) ?_
    exact v_Mod_clean_13 X  hP hD hS (lv_sub hl [] rfl) h
theorem d_Mod_faults_0 : decode prog_12_method_58_code 0 = .ok (.aload_n 0, 1) := by decide +kernel
theorem d_Mod_faults_1 : decode prog_12_method_58_code 1 = .ok (.aload_n 0, 1) := by decide +kernel
theorem d_Mod_faults_2 : decode prog_12_method_58_code 2 = .ok (.getfield 107, 3) := by decide +kernel
theorem d_Mod_faults_5 : decode prog_12_method_58_code 5 = .ok (.ifCond .ne 7, 3) := by decide +kernel
theorem d_Mod_faults_8 : decode prog_12_method_58_code 8 = .ok (.iconst 1, 1) := by decide +kernel
theorem d_Mod_faults_9 : decode prog_12_method_58_code 9 = .ok (.goto 4, 3) := by decide +kernel
theorem d_Mod_faults_12 : decode prog_12_method_58_code 12 = .ok (.iconst 0, 1) := by decide +kernel
theorem d_Mod_faults_13 : decode prog_12_method_58_code 13 = .ok (.iconst 0, 1) := by decide +kernel
theorem d_Mod_faults_14 : decode prog_12_method_58_code 14 = .ok (.invokevirtual 148, 3) := by decide +kernel
theorem d_Mod_faults_17 : decode prog_12_method_58_code 17 = .ok (.pop, 1) := by decide +kernel
theorem d_Mod_faults_18 : decode prog_12_method_58_code 18 = .ok (.iconst 0, 1) := by decide +kernel
theorem d_Mod_faults_19 : decode prog_12_method_58_code 19 = .ok (.ireturn, 1) := by decide +kernel
set_option maxHeartbeats 4000000 in
set_option maxRecDepth 100000 in
theorem v_Mod_faults_13 {p : Program} {l : Launch} {e : Env} {s : State} {m : MethodId} {args : Array Value} {below : List Frame} {meth : Method} {c : Code} {D : va_G} {ad : Nat → Nat} {ca : Nat → ClassId} {A : Nat → Prop} {FU : Nat} {q : Int32 × St} (X : FX p s m meth c prog_12_method_58_code 1 (some .int) "FlashFilesModel" D (tyM ca) A) {z0 : Int32} {g : St} {H : Heap} {locs : List Loc} {ls : Array Slot} (hP : va_P D cls (wM ad ca g) H) (hD : va_D A (wM ad ca g)) (hS : va_S A s.heap H locs) (hl : lv_has ls 1 []) (h : Mod_faults_b13 FU z0 g = some q) : W p l e (rmN 2) s m args below meth c H locs 0 0 (MQ below (fxQi D (tyM ca) A (wM ad ca q.2) q.1) args s 0 0 A) (F0 m 13 ls [.int z0, .ref (ad 0)]) := by
  have hx := X.1
  have hb := X.2.1
  unfold Mod_faults_b13 at h
  refine lv_iconst (v := 0) hx hb d_Mod_faults_13 (by decide) ?_
  obtain ⟨p1, e1, h⟩ := bd_some h
  refine fx_i X (fx_runV (As := [.int z0, .int (0 : Int32)]) X (m_Mod_throwing e1 _) hP hD kv_Mod_148 ⟨Nat.le_of_ble_eq_true rfl, Nat.le_of_ble_eq_true rfl⟩ 0 rfl rfl rfl hl.1 rfl (Nat.le_of_ble_eq_true rfl) d_Mod_faults_14) hD hS (fun H locs hP hD hS => ?_)
  refine lv_pop hx hb d_Mod_faults_17 rfl ?_
  refine lv_iconst (v := 0) hx hb d_Mod_faults_18 (by decide) ?_
  cases h
  exact fx_iret X hP hD hS d_Mod_faults_19
set_option maxHeartbeats 4000000 in
set_option maxRecDepth 100000 in
theorem m_Mod_faults {l : Launch} {D : va_G} {ad : Nat → Nat} {ca : Nat → ClassId} {FU : Nat} {g : St} {q : Int32 × St} (h : Mod_faults FU  g = some q) : CI l ⟨"FlashFilesModel", "faults", "()I"⟩ prog_12_method_58_code 1 2 (some .int) D (tyM ca) (wM ad ca g) [.ref (ad 0)] q.1 (wM ad ca q.2) := by
  intro sz
  refine Met.fx (Qc := fun A => fxQi D (tyM ca) A (wM ad ca q.2) q.1) (by decide) (Nat.le_of_ble_eq_true rfl) ?_
  intro p e s m below meth c A ls X hP hD hl
  have hl : lv_has ls 1 [(0, .ref (ad 0))] := hl
  have hS : va_S A s.heap s.heap [] := va_S.rf
  have hx := X.1
  have hb := X.2.1
  unfold Mod_faults at h
  refine lv_aload_n hx hb d_Mod_faults_0 rfl (lv_at hl 0 rfl) ?_
  refine lv_aload_n hx hb d_Mod_faults_1 rfl (lv_at hl 0 rfl) ?_
  refine gM_mod_mounted X hP d_Mod_faults_2 ?_
  refine lv_if_ne (tgt := 12) hx hb d_Mod_faults_5 (by decide) (fun hc => ?_) (fun hc => ?_)
  · have h := if_f hc h
    refine lv_iconst (v := 0) hx hb d_Mod_faults_12 (by decide) ?_
    exact v_Mod_faults_13 X  hP hD hS (lv_sub hl [] rfl) h
  · have h := if_t hc h
    refine lv_iconst (v := 1) hx hb d_Mod_faults_8 (by decide) ?_
    refine lv_goto (tgt := 13) hx hb d_Mod_faults_9 (by decide) ?_
    exact v_Mod_faults_13 X  hP hD hS (lv_sub hl [] rfl) h
