theorem q1_29 : (Cond.classLink "FlashFilesLaw" (8) "FlashFiles" : Cond) ∈ TT := tt1 (List.mem_of_getElem? (i := 29) rfl) rfl
theorem q1_30 : (Cond.instantiable "FlashFiles" (14) : Cond) ∈ TT := tt1 (List.mem_of_getElem? (i := 30) rfl) rfl
theorem q1_31 : (Cond.methodLink "FlashFilesLaw" (92) ⟨"FlashFiles", "<init>", "()V"⟩ : Cond) ∈ TT := tt1 (List.mem_of_getElem? (i := 31) rfl) rfl
theorem q1_32 : (Cond.instanceMethod ⟨"FlashFiles", "<init>", "()V"⟩ : Cond) ∈ TT := tt1 (List.mem_of_getElem? (i := 32) rfl) rfl
theorem q1_33 : (Cond.code ⟨"FlashFiles", "<init>", "()V"⟩ prog_1_method_1_code (1) none : Cond) ∈ TT := tt1 (List.mem_of_getElem? (i := 33) rfl) rfl
theorem q7_134 : (Cond.classLink "FlashFilesLaw" (93) "FlashFilesModel" : Cond) ∈ TT := tt7 (List.mem_of_getElem? (i := 134) rfl) rfl
theorem q7_135 : (Cond.instantiable "FlashFilesModel" (33) : Cond) ∈ TT := tt7 (List.mem_of_getElem? (i := 135) rfl) rfl
theorem q7_136 : (Cond.methodLink "FlashFilesLaw" (95) ⟨"FlashFilesModel", "<init>", "()V"⟩ : Cond) ∈ TT := tt7 (List.mem_of_getElem? (i := 136) rfl) rfl
theorem q7_137 : (Cond.instanceMethod ⟨"FlashFilesModel", "<init>", "()V"⟩ : Cond) ∈ TT := tt7 (List.mem_of_getElem? (i := 137) rfl) rfl
theorem q7_138 : (Cond.code ⟨"FlashFilesModel", "<init>", "()V"⟩ prog_12_method_1_code (1) none : Cond) ∈ TT := tt7 (List.mem_of_getElem? (i := 138) rfl) rfl
theorem q8_228 : (Cond.arrayClass .long : Cond) ∈ TT := tt8 (List.mem_of_getElem? (i := 228) rfl) rfl
/-! the start: what the Statement gives there -/
theorem sw_isRef {A : Nat → Prop} {s : State} {C n d : String} (h : va_Zq C n d A s s.heap) : sW (.isRef (.static C n d)) A s := by
  intro V a hW hz hk
  have h1 : va_Zq C n d A V V.heap := (h.moved hW.alike).kept hk
  have key : ∀ v : Value, va_Z C n d v A V V.heap → (Term.static C n d).eval a V none [] V = some v := by
    intro v hv
    obtain ⟨cf, kf, fi, f, q, cell, g1, g2, g3, g4, g5, g6, g7, g8⟩ := hv
    exact Term.static_eval g1 g2 g4 g5 g6 g7
  rcases h1 with h1 | ⟨t, h1⟩
  · have e := key _ h1
    simp [Cond.before, Cond.holds, Cond.value, e]
  · have e := key _ h1
    simp [Cond.before, Cond.holds, Cond.value, e]
theorem sw_lays {A : Nat → Prop} {args : Array Value} {s : State} {C n d : String} (h : (Cond.laysStatic C n d).before args s = true) (hA : ∀ a : Nat, a < s.heap.size → ¬ A a) : sW (.laysStatic C n d) A s := by
  intro V a hW hz hk
  obtain ⟨c, k, i, f, q, cell, hc, hi, hst, ha, hcell, hs, hcls, hlt, hty⟩ := Cond.laysStatic_spec h
  obtain ⟨k', hi', hek⟩ := State.fieldFound?_setVm hW.alike hi
  have hq : q < s.heap.size := (Array.getElem?_eq_some_iff.mp hcell).1
  exact Cond.laysStatic_of (s := V) (by rw [hW.alike.findClass]; exact hc) hi' hst (by rw [hek]; exact ha) (by rw [hk q hq (hA q hq)]; exact hcell) hs hcls hlt (by rw [hek]; exact hty)
theorem sw_str {A : Nat → Prop} {args : Array Value} {s : State} {own tx : String} {k : Nat} (h : (Cond.stringRef own k tx).before args s = true) : sW (.stringRef own k tx) A s := by
  intro V a hW hz hk
  have hcur : ∃ cur, s.vm.findClass own = some cur := by
    have h1 := h
    simp only [Cond.before, Cond.holds, Cond.value] at h1
    cases hc : s.vm.findClass own with
    | none => simp [hc] at h1
    | some cur => exact ⟨cur, rfl⟩
  obtain ⟨cur, hcur⟩ := hcur
  obtain ⟨k9, cf9, i9, sa, -, -, -, -, -, hsa⟩ := Cond.stringRef_spec hcur h
  exact ((vk_R.of h hsa).warm hW).1
set_option maxRecDepth 20000 in
theorem st_ZS {A : Nat → Prop} {args : Array Value} {s : State} (hts : ∀ w ∈ lw_tbl, w.before args s = true) (hnr : ∀ w ∈ flatC (Jvm.Cond.and given_1 narrow_1), w.before args s = true) (hA : ∀ a : Nat, a < s.heap.size → ¬ A a) : ZS A s :=
  List.forall_mem_cons.mpr ⟨sw_isRef (va_Zqof (hts _ (List.mem_append_right _ (List.mem_append_right _ (List.mem_append_left _ (List.mem_of_getElem? (i := 136) rfl))))) (hts _ (List.mem_append_right _ (List.mem_append_left _ (List.mem_of_getElem? (i := 12) rfl)))) (hnr (.isRef (.static "java/lang/Throwable" "UNASSIGNED_STACK" "[Ljava/lang/StackTraceElement;")) (by decide +kernel)) hA), List.forall_mem_cons.mpr ⟨sw_isRef (va_Zqof (hts _ (List.mem_append_right _ (List.mem_append_right _ (List.mem_append_left _ (List.mem_of_getElem? (i := 138) rfl))))) (hts _ (List.mem_append_right _ (List.mem_append_left _ (List.mem_of_getElem? (i := 12) rfl)))) (hnr (.isRef (.static "java/lang/Throwable" "SUPPRESSED_SENTINEL" "Ljava/util/List;")) (by decide +kernel)) hA), List.forall_mem_cons.mpr ⟨sw_lays (hts _ (List.mem_append_right _ (List.mem_append_right _ (List.mem_append_left _ (List.mem_of_getElem? (i := 136) rfl))))) hA, List.forall_mem_cons.mpr ⟨sw_lays (hts _ (List.mem_append_right _ (List.mem_append_right _ (List.mem_append_left _ (List.mem_of_getElem? (i := 138) rfl))))) hA, List.forall_mem_cons.mpr ⟨sw_str (hts _ (List.mem_append_right _ (List.mem_append_right _ (List.mem_append_left _ (List.mem_of_getElem? (i := 150) rfl))))), List.forall_mem_cons.mpr ⟨sw_str (hts _ (List.mem_append_right _ (List.mem_append_right _ (List.mem_append_right _ (List.mem_append_right _ (List.mem_append_left _ (List.mem_of_getElem? (i := 209) rfl))))))), List.forall_mem_cons.mpr ⟨sw_str (hts _ (List.mem_append_right _ (List.mem_append_right _ (List.mem_append_right _ (List.mem_append_right _ (List.mem_append_right _ (List.mem_append_left _ (List.mem_of_getElem? (i := 0) rfl)))))))), List.forall_mem_cons.mpr ⟨sw_str (hts _ (List.mem_append_right _ (List.mem_append_right _ (List.mem_append_right _ (List.mem_append_right _ (List.mem_append_right _ (List.mem_append_left _ (List.mem_of_getElem? (i := 22) rfl)))))))), List.forall_mem_cons.mpr ⟨sw_str (hts _ (List.mem_append_right _ (List.mem_append_right _ (List.mem_append_right _ (List.mem_append_right _ (List.mem_append_right _ (List.mem_append_left _ (List.mem_of_getElem? (i := 40) rfl)))))))), List.forall_mem_cons.mpr ⟨sw_str (hts _ (List.mem_append_right _ (List.mem_append_right _ (List.mem_append_right _ (List.mem_append_right _ (List.mem_append_right _ (List.mem_append_left _ (List.mem_of_getElem? (i := 49) rfl)))))))), List.forall_mem_cons.mpr ⟨sw_str (hts _ (List.mem_append_right _ (List.mem_append_right _ (List.mem_append_right _ (List.mem_append_right _ (List.mem_append_right _ (List.mem_append_left _ (List.mem_of_getElem? (i := 83) rfl)))))))), List.forall_mem_cons.mpr ⟨sw_str (hts _ (List.mem_append_right _ (List.mem_append_right _ (List.mem_append_right _ (List.mem_append_right _ (List.mem_append_right _ (List.mem_append_left _ (List.mem_of_getElem? (i := 90) rfl)))))))), List.forall_mem_cons.mpr ⟨sw_str (hts _ (List.mem_append_right _ (List.mem_append_right _ (List.mem_append_right _ (List.mem_append_right _ (List.mem_append_right _ (List.mem_append_left _ (List.mem_of_getElem? (i := 129) rfl)))))))), List.forall_mem_cons.mpr ⟨sw_str (hts _ (List.mem_append_right _ (List.mem_append_right _ (List.mem_append_right _ (List.mem_append_right _ (List.mem_append_right _ (List.mem_append_left _ (List.mem_of_getElem? (i := 154) rfl)))))))), List.forall_mem_cons.mpr ⟨sw_str (hts _ (List.mem_append_right _ (List.mem_append_right _ (List.mem_append_right _ (List.mem_append_right _ (List.mem_append_right _ (List.mem_append_left _ (List.mem_of_getElem? (i := 189) rfl)))))))), List.forall_mem_cons.mpr ⟨sw_str (hts _ (List.mem_append_right _ (List.mem_append_right _ (List.mem_append_right _ (List.mem_append_right _ (List.mem_append_right _ (List.mem_append_left _ (List.mem_of_getElem? (i := 206) rfl)))))))), List.forall_mem_cons.mpr ⟨sw_str (hts _ (List.mem_append_right _ (List.mem_append_right _ (List.mem_append_right _ (List.mem_append_right _ (List.mem_append_right _ (List.mem_append_left _ (List.mem_of_getElem? (i := 207) rfl)))))))), List.forall_mem_cons.mpr ⟨sw_str (hts _ (List.mem_append_right _ (List.mem_append_right _ (List.mem_append_right _ (List.mem_append_right _ (List.mem_append_right _ (List.mem_append_left _ (List.mem_of_getElem? (i := 208) rfl)))))))), List.forall_mem_cons.mpr ⟨sw_str (hts _ (List.mem_append_right _ (List.mem_append_right _ (List.mem_append_right _ (List.mem_append_right _ (List.mem_append_right _ (List.mem_append_left _ (List.mem_of_getElem? (i := 213) rfl)))))))), List.forall_mem_cons.mpr ⟨sw_str (hts _ (List.mem_append_right _ (List.mem_append_right _ (List.mem_append_right _ (List.mem_append_right _ (List.mem_append_right _ (List.mem_append_left _ (List.mem_of_getElem? (i := 218) rfl)))))))), List.forall_mem_cons.mpr ⟨sw_str (hts _ (List.mem_append_right _ (List.mem_append_right _ (List.mem_append_right _ (List.mem_append_right _ (List.mem_append_right _ (List.mem_append_right _ (List.mem_append_left _ (List.mem_of_getElem? (i := 2) rfl))))))))), List.forall_mem_cons.mpr ⟨sw_str (hts _ (List.mem_append_right _ (List.mem_append_right _ (List.mem_append_right _ (List.mem_append_right _ (List.mem_append_right _ (List.mem_append_right _ (List.mem_append_left _ (List.mem_of_getElem? (i := 104) rfl))))))))), List.forall_mem_cons.mpr ⟨sw_str (hts _ (List.mem_append_right _ (List.mem_append_right _ (List.mem_append_right _ (List.mem_append_right _ (List.mem_append_right _ (List.mem_append_right _ (List.mem_append_left _ (List.mem_of_getElem? (i := 113) rfl))))))))), List.forall_mem_cons.mpr ⟨sw_str (hts _ (List.mem_append_right _ (List.mem_append_right _ (List.mem_append_right _ (List.mem_append_right _ (List.mem_append_right _ (List.mem_append_right _ (List.mem_append_left _ (List.mem_of_getElem? (i := 160) rfl))))))))), List.forall_mem_cons.mpr ⟨sw_str (hts _ (List.mem_append_right _ (List.mem_append_right _ (List.mem_append_right _ (List.mem_append_right _ (List.mem_append_right _ (List.mem_append_right _ (List.mem_append_left _ (List.mem_of_getElem? (i := 186) rfl))))))))), List.forall_mem_cons.mpr ⟨sw_str (hts _ (List.mem_append_right _ (List.mem_append_right _ (List.mem_append_right _ (List.mem_append_right _ (List.mem_append_right _ (List.mem_append_right _ (List.mem_append_left _ (List.mem_of_getElem? (i := 229) rfl))))))))), fun _ h => absurd h List.not_mem_nil⟩⟩⟩⟩⟩⟩⟩⟩⟩⟩⟩⟩⟩⟩⟩⟩⟩⟩⟩⟩⟩⟩⟩⟩⟩⟩
theorem st_NC {args : Array Value} {s : State} (hnr : ∀ w ∈ flatC (Jvm.Cond.and given_1 narrow_1), w.before args s = true) : NC s :=
  ⟨va_Nc.of (hnr _ (by decide +kernel)), va_Nc.of (hnr _ (by decide +kernel)), va_Nc.of (hnr _ (by decide +kernel))⟩
theorem st_K {s : State} (hT : TB s) : ∃ D : va_G, va_K D cls [] s := by
  have key : ∀ c : Nat, ∃ (d : ClassId) (i : Nat → Nat), ∀ q : vw_C, cls[c]? = some q → u_Kn s q.1 q.2.1 q.2.2 d i := by
    intro c
    match c with
    | 0 =>
      obtain ⟨d, i, h⟩ := u_known (ws := TT) (args := #[]) (s := s) (C := R_FF) (T := F_FF) (N := 14) (n := 14) (fun w hw => hT.use hw) in_FF (hT.use q1_30)
      exact ⟨d, i, fun q hq => by cases hq; exact h⟩
    | 1 =>
      obtain ⟨d, i, h⟩ := u_known (ws := TT) (args := #[]) (s := s) (C := R_Row) (T := F_Row) (N := 2) (n := 2) (fun w hw => hT.use hw) in_Row (hT.use q1_38)
      exact ⟨d, i, fun q hq => by cases hq; exact h⟩
    | 2 =>
      obtain ⟨d, i, h⟩ := u_known (ws := TT) (args := #[]) (s := s) (C := R_Dev) (T := F_Dev) (N := 3) (n := 3) (fun w hw => hT.use hw) in_Dev (hT.use q1_52)
      exact ⟨d, i, fun q hq => by cases hq; exact h⟩
    | 3 =>
      obtain ⟨d, i, h⟩ := u_known (ws := TT) (args := #[]) (s := s) (C := R_Tab) (T := F_Tab) (N := 3) (n := 3) (fun w hw => hT.use hw) in_Tab (hT.use q1_70)
      exact ⟨d, i, fun q hq => by cases hq; exact h⟩
    | 4 =>
      obtain ⟨d, i, h⟩ := u_known (ws := TT) (args := #[]) (s := s) (C := R_Log) (T := F_Log) (N := 12) (n := 12) (fun w hw => hT.use hw) in_Log (hT.use q1_86)
      exact ⟨d, i, fun q hq => by cases hq; exact h⟩
    | 5 =>
      obtain ⟨d, i, h⟩ := u_known (ws := TT) (args := #[]) (s := s) (C := R_Fil) (T := F_Fil) (N := 11) (n := 11) (fun w hw => hT.use hw) in_Fil (hT.use q1_129)
      exact ⟨d, i, fun q hq => by cases hq; exact h⟩
    | 6 =>
      obtain ⟨d, i, h⟩ := u_known (ws := TT) (args := #[]) (s := s) (C := R_Tre) (T := F_Tre) (N := 5) (n := 5) (fun w hw => hT.use hw) in_Tre (hT.use q1_169)
      exact ⟨d, i, fun q hq => by cases hq; exact h⟩
    | 7 =>
      obtain ⟨d, i, h⟩ := u_known (ws := TT) (args := #[]) (s := s) (C := R_Cle) (T := F_Cle) (N := 6) (n := 6) (fun w hw => hT.use hw) in_Cle (hT.use q1_193)
      exact ⟨d, i, fun q hq => by cases hq; exact h⟩
    | 8 =>
      obtain ⟨d, i, h⟩ := u_known (ws := TT) (args := #[]) (s := s) (C := R_Chk) (T := F_Chk) (N := 11) (n := 11) (fun w hw => hT.use hw) in_Chk (hT.use q1_191)
      exact ⟨d, i, fun q hq => by cases hq; exact h⟩
    | 9 =>
      obtain ⟨d, i, h⟩ := u_known (ws := TT) (args := #[]) (s := s) (C := R_Ins) (T := F_Ins) (N := 8) (n := 8) (fun w hw => hT.use hw) in_Ins (hT.use q2_16)
      exact ⟨d, i, fun q hq => by cases hq; exact h⟩
    | 10 =>
      obtain ⟨d, i, h⟩ := u_known (ws := TT) (args := #[]) (s := s) (C := R_Mod) (T := F_Mod) (N := 33) (n := 33) (fun w hw => hT.use hw) in_Mod (hT.use q7_135)
      exact ⟨d, i, fun q hq => by cases hq; exact h⟩
    | k + 11 => exact ⟨0, fun _ => 0, fun q hq => by cases hq⟩
  exact ⟨(fun c => Classical.choose (key c), fun c => Classical.choose (Classical.choose_spec (key c))), fun c q hq => Classical.choose_spec (Classical.choose_spec (key c)) q hq, fun k q hk => by cases hk⟩
theorem st_tr {l : Launch} (h : l.flags = flags0) : l.stackTraces = false := by
  show (!l.flags.contains noTraceFlag) = false
  rw [h]
  decide
