section CELF
variable {p : Program} {l : Launch} {e : Env} {R : Room} {s : State} {m : MethodId} {args : Array Value} {below : List Frame} {meth : Method} {c : Code} {H : Heap} {locs : List Loc} {Q : State → Prop}
variable {cc : ByteArray} {own : String} {nL : Nat} {D : va_G} {ad : Nat → Nat} {ca : Nat → ClassId} {A : Nat → Prop} {g g1 : St} {pc : Nat} {ls : Array Slot} {rest : List Value} {rt : Option FieldType}

theorem gF_ff_onTape (X : FX p s m meth c cc nL rt R_FF D (tyF ca) A) (hP : va_P D cls (wF ad ca g) H) (hdg : decode cc pc = .ok (.getfield 14, 3)) (kk : W p l e R s m args below meth c H locs 0 0 Q (F0 m (pc + 3) ls (.ref (ad 1) :: rest))) : W p l e R s m args below meth c H locs 0 0 Q (F0 m pc ls (.ref (ad 0) :: rest)) := by
  obtain ⟨hx, hb, -, -, -, hown, hT, hK, -⟩ := X
  exact va_get (C := R_FF) (T := F_FF) (N := 14) (Ts := TT) hx hb (fun _ h => hT.use h) in_FF hown hK hP 0 rfl rfl 0 (by decide) (hT.use q2_46) (fun _ h => h) rfl hdg kk
theorem gF_ff_told (X : FX p s m meth c cc nL rt R_FF D (tyF ca) A) (hP : va_P D cls (wF ad ca g) H) (hdg : decode cc pc = .ok (.getfield 18, 3)) (kk : W p l e R s m args below meth c H locs 0 0 Q (F0 m (pc + 3) ls (.ref (ad 2) :: rest))) : W p l e R s m args below meth c H locs 0 0 Q (F0 m pc ls (.ref (ad 0) :: rest)) := by
  obtain ⟨hx, hb, -, -, -, hown, hT, hK, -⟩ := X
  exact va_get (C := R_FF) (T := F_FF) (N := 14) (Ts := TT) hx hb (fun _ h => hT.use h) in_FF hown hK hP 0 rfl rfl 1 (by decide) (hT.use q2_47) (fun _ h => h) rfl hdg kk
theorem gF_ff_first (X : FX p s m meth c cc nL rt R_FF D (tyF ca) A) (hP : va_P D cls (wF ad ca g) H) (hdg : decode cc pc = .ok (.getfield 21, 3)) (kk : W p l e R s m args below meth c H locs 0 0 Q (F0 m (pc + 3) ls (.ref (ad 13) :: rest))) : W p l e R s m args below meth c H locs 0 0 Q (F0 m pc ls (.ref (ad 0) :: rest)) := by
  obtain ⟨hx, hb, -, -, -, hown, hT, hK, -⟩ := X
  exact va_get (C := R_FF) (T := F_FF) (N := 14) (Ts := TT) hx hb (fun _ h => hT.use h) in_FF hown hK hP 0 rfl rfl 2 (by decide) (hT.use q2_48) (fun _ h => h) rfl hdg kk
theorem gF_ff_second (X : FX p s m meth c cc nL rt R_FF D (tyF ca) A) (hP : va_P D cls (wF ad ca g) H) (hdg : decode cc pc = .ok (.getfield 25, 3)) (kk : W p l e R s m args below meth c H locs 0 0 Q (F0 m (pc + 3) ls (.ref (ad 14) :: rest))) : W p l e R s m args below meth c H locs 0 0 Q (F0 m pc ls (.ref (ad 0) :: rest)) := by
  obtain ⟨hx, hb, -, -, -, hown, hT, hK, -⟩ := X
  exact va_get (C := R_FF) (T := F_FF) (N := 14) (Ts := TT) hx hb (fun _ h => hT.use h) in_FF hown hK hP 0 rfl rfl 3 (by decide) (hT.use q2_49) (fun _ h => h) rfl hdg kk
theorem gF_ff_device (X : FX p s m meth c cc nL rt R_FF D (tyF ca) A) (hP : va_P D cls (wF ad ca g) H) (hdg : decode cc pc = .ok (.getfield 31, 3)) (kk : W p l e R s m args below meth c H locs 0 0 Q (F0 m (pc + 3) ls (.ref (ad 3) :: rest))) : W p l e R s m args below meth c H locs 0 0 Q (F0 m pc ls (.ref (ad 0) :: rest)) := by
  obtain ⟨hx, hb, -, -, -, hown, hT, hK, -⟩ := X
  exact va_get (C := R_FF) (T := F_FF) (N := 14) (Ts := TT) hx hb (fun _ h => hT.use h) in_FF hown hK hP 0 rfl rfl 4 (by decide) (hT.use q2_50) (fun _ h => h) rfl hdg kk
theorem gF_ff_table (X : FX p s m meth c cc nL rt R_FF D (tyF ca) A) (hP : va_P D cls (wF ad ca g) H) (hdg : decode cc pc = .ok (.getfield 38, 3)) (kk : W p l e R s m args below meth c H locs 0 0 Q (F0 m (pc + 3) ls (.ref (ad 4) :: rest))) : W p l e R s m args below meth c H locs 0 0 Q (F0 m pc ls (.ref (ad 0) :: rest)) := by
  obtain ⟨hx, hb, -, -, -, hown, hT, hK, -⟩ := X
  exact va_get (C := R_FF) (T := F_FF) (N := 14) (Ts := TT) hx hb (fun _ h => hT.use h) in_FF hown hK hP 0 rfl rfl 5 (by decide) (hT.use q2_51) (fun _ h => h) rfl hdg kk
theorem gF_ff_log (X : FX p s m meth c cc nL rt R_FF D (tyF ca) A) (hP : va_P D cls (wF ad ca g) H) (hdg : decode cc pc = .ok (.getfield 47, 3)) (kk : W p l e R s m args below meth c H locs 0 0 Q (F0 m (pc + 3) ls (.ref (ad 5) :: rest))) : W p l e R s m args below meth c H locs 0 0 Q (F0 m pc ls (.ref (ad 0) :: rest)) := by
  obtain ⟨hx, hb, -, -, -, hown, hT, hK, -⟩ := X
  exact va_get (C := R_FF) (T := F_FF) (N := 14) (Ts := TT) hx hb (fun _ h => hT.use h) in_FF hown hK hP 0 rfl rfl 6 (by decide) (hT.use q2_52) (fun _ h => h) rfl hdg kk
theorem gF_ff_files (X : FX p s m meth c cc nL rt R_FF D (tyF ca) A) (hP : va_P D cls (wF ad ca g) H) (hdg : decode cc pc = .ok (.getfield 56, 3)) (kk : W p l e R s m args below meth c H locs 0 0 Q (F0 m (pc + 3) ls (.ref (ad 6) :: rest))) : W p l e R s m args below meth c H locs 0 0 Q (F0 m pc ls (.ref (ad 0) :: rest)) := by
  obtain ⟨hx, hb, -, -, -, hown, hT, hK, -⟩ := X
  exact va_get (C := R_FF) (T := F_FF) (N := 14) (Ts := TT) hx hb (fun _ h => hT.use h) in_FF hown hK hP 0 rfl rfl 7 (by decide) (hT.use q2_53) (fun _ h => h) rfl hdg kk
theorem gF_ff_tree (X : FX p s m meth c cc nL rt R_FF D (tyF ca) A) (hP : va_P D cls (wF ad ca g) H) (hdg : decode cc pc = .ok (.getfield 63, 3)) (kk : W p l e R s m args below meth c H locs 0 0 Q (F0 m (pc + 3) ls (.ref (ad 7) :: rest))) : W p l e R s m args below meth c H locs 0 0 Q (F0 m pc ls (.ref (ad 0) :: rest)) := by
  obtain ⟨hx, hb, -, -, -, hown, hT, hK, -⟩ := X
  exact va_get (C := R_FF) (T := F_FF) (N := 14) (Ts := TT) hx hb (fun _ h => hT.use h) in_FF hown hK hP 0 rfl rfl 8 (by decide) (hT.use q2_54) (fun _ h => h) rfl hdg kk
theorem gF_ff_checkpoints (X : FX p s m meth c cc nL rt R_FF D (tyF ca) A) (hP : va_P D cls (wF ad ca g) H) (hdg : decode cc pc = .ok (.getfield 75, 3)) (kk : W p l e R s m args below meth c H locs 0 0 Q (F0 m (pc + 3) ls (.ref (ad 9) :: rest))) : W p l e R s m args below meth c H locs 0 0 Q (F0 m pc ls (.ref (ad 0) :: rest)) := by
  obtain ⟨hx, hb, -, -, -, hown, hT, hK, -⟩ := X
  exact va_get (C := R_FF) (T := F_FF) (N := 14) (Ts := TT) hx hb (fun _ h => hT.use h) in_FF hown hK hP 0 rfl rfl 9 (by decide) (hT.use q2_55) (fun _ h => h) rfl hdg kk
theorem gF_ff_inspector (X : FX p s m meth c cc nL rt R_FF D (tyF ca) A) (hP : va_P D cls (wF ad ca g) H) (hdg : decode cc pc = .ok (.getfield 84, 3)) (kk : W p l e R s m args below meth c H locs 0 0 Q (F0 m (pc + 3) ls (.ref (ad 10) :: rest))) : W p l e R s m args below meth c H locs 0 0 Q (F0 m pc ls (.ref (ad 0) :: rest)) := by
  obtain ⟨hx, hb, -, -, -, hown, hT, hK, -⟩ := X
  exact va_get (C := R_FF) (T := F_FF) (N := 14) (Ts := TT) hx hb (fun _ h => hT.use h) in_FF hown hK hP 0 rfl rfl 10 (by decide) (hT.use q2_56) (fun _ h => h) rfl hdg kk
theorem gF_ff_state (X : FX p s m meth c cc nL rt R_FF D (tyF ca) A) (hP : va_P D cls (wF ad ca g) H) (hdg : decode cc pc = .ok (.getfield 88, 3)) (kk : W p l e R s m args below meth c H locs 0 0 Q (F0 m (pc + 3) ls (.int (g.1 2) :: rest))) : W p l e R s m args below meth c H locs 0 0 Q (F0 m pc ls (.ref (ad 0) :: rest)) := by
  obtain ⟨hx, hb, -, -, -, hown, hT, hK, -⟩ := X
  exact va_get (C := R_FF) (T := F_FF) (N := 14) (Ts := TT) hx hb (fun _ h => hT.use h) in_FF hown hK hP 0 rfl rfl 11 (by decide) (hT.use q2_57) (fun _ h => h) rfl hdg kk
theorem uF_ff_state (X : FX p s m meth c cc nL rt R_FF D (tyF ca) A) (hP : va_P D cls (wF ad ca g) H) (hD : va_D A (wF ad ca g)) (hS : va_S A s.heap H locs) {v : Int32} (e1 : setI g 2 v = g1) (hdg : decode cc pc = .ok (.putfield 88, 3)) (kk : ∀ (H1 : Heap) (locs1 : List Loc), va_P D cls (wF ad ca g1) H1 → va_D A (wF ad ca g1) → va_S A s.heap H1 locs1 → W p l e R s m args below meth c H1 locs1 0 0 Q (F0 m (pc + 3) ls rest)) : W p l e R s m args below meth c H locs 0 0 Q (F0 m pc ls (.int v :: .ref (ad 0) :: rest)) := by
  obtain ⟨hx, hb, -, -, -, hown, hT, hK, -⟩ := X
  subst e1
  exact va_put (ty := .int) (C := R_FF) (T := F_FF) (N := 14) (Ts := TT) hx hb (fun _ h => hT.use h) in_FF ft_FF ft_FF_ok n_FF hown hK hP hD hS 0 rfl rfl 11 (by decide) (hT.use q2_57) (fun _ h => h) rfl (by decide +kernel) rfl rfl (Nat.le_of_ble_eq_true rfl) hdg (fun H1 locs1 h1 h2 h3 => kk H1 locs1 h1 h2 h3)
theorem gF_ff_cutAfter (X : FX p s m meth c cc nL rt R_FF D (tyF ca) A) (hP : va_P D cls (wF ad ca g) H) (hdg : decode cc pc = .ok (.getfield 92, 3)) (kk : W p l e R s m args below meth c H locs 0 0 Q (F0 m (pc + 3) ls (.int (g.1 3) :: rest))) : W p l e R s m args below meth c H locs 0 0 Q (F0 m pc ls (.ref (ad 0) :: rest)) := by
  obtain ⟨hx, hb, -, -, -, hown, hT, hK, -⟩ := X
  exact va_get (C := R_FF) (T := F_FF) (N := 14) (Ts := TT) hx hb (fun _ h => hT.use h) in_FF hown hK hP 0 rfl rfl 12 (by decide) (hT.use q2_58) (fun _ h => h) rfl hdg kk
theorem uF_ff_cutAfter (X : FX p s m meth c cc nL rt R_FF D (tyF ca) A) (hP : va_P D cls (wF ad ca g) H) (hD : va_D A (wF ad ca g)) (hS : va_S A s.heap H locs) {v : Int32} (e1 : setI g 3 v = g1) (hdg : decode cc pc = .ok (.putfield 92, 3)) (kk : ∀ (H1 : Heap) (locs1 : List Loc), va_P D cls (wF ad ca g1) H1 → va_D A (wF ad ca g1) → va_S A s.heap H1 locs1 → W p l e R s m args below meth c H1 locs1 0 0 Q (F0 m (pc + 3) ls rest)) : W p l e R s m args below meth c H locs 0 0 Q (F0 m pc ls (.int v :: .ref (ad 0) :: rest)) := by
  obtain ⟨hx, hb, -, -, -, hown, hT, hK, -⟩ := X
  subst e1
  exact va_put (ty := .int) (C := R_FF) (T := F_FF) (N := 14) (Ts := TT) hx hb (fun _ h => hT.use h) in_FF ft_FF ft_FF_ok n_FF hown hK hP hD hS 0 rfl rfl 12 (by decide) (hT.use q2_58) (fun _ h => h) rfl (by decide +kernel) rfl rfl (Nat.le_of_ble_eq_true rfl) hdg (fun H1 locs1 h1 h2 h3 => kk H1 locs1 h1 h2 h3)
theorem gF_ff_broughtForward (X : FX p s m meth c cc nL rt R_FF D (tyF ca) A) (hP : va_P D cls (wF ad ca g) H) (hdg : decode cc pc = .ok (.getfield 95, 3)) (kk : W p l e R s m args below meth c H locs 0 0 Q (F0 m (pc + 3) ls (.int (g.1 4) :: rest))) : W p l e R s m args below meth c H locs 0 0 Q (F0 m pc ls (.ref (ad 0) :: rest)) := by
  obtain ⟨hx, hb, -, -, -, hown, hT, hK, -⟩ := X
  exact va_get (C := R_FF) (T := F_FF) (N := 14) (Ts := TT) hx hb (fun _ h => hT.use h) in_FF hown hK hP 0 rfl rfl 13 (by decide) (hT.use q2_59) (fun _ h => h) rfl hdg kk
theorem uF_ff_broughtForward (X : FX p s m meth c cc nL rt R_FF D (tyF ca) A) (hP : va_P D cls (wF ad ca g) H) (hD : va_D A (wF ad ca g)) (hS : va_S A s.heap H locs) {v : Int32} (e1 : setI g 4 v = g1) (hdg : decode cc pc = .ok (.putfield 95, 3)) (kk : ∀ (H1 : Heap) (locs1 : List Loc), va_P D cls (wF ad ca g1) H1 → va_D A (wF ad ca g1) → va_S A s.heap H1 locs1 → W p l e R s m args below meth c H1 locs1 0 0 Q (F0 m (pc + 3) ls rest)) : W p l e R s m args below meth c H locs 0 0 Q (F0 m pc ls (.int v :: .ref (ad 0) :: rest)) := by
  obtain ⟨hx, hb, -, -, -, hown, hT, hK, -⟩ := X
  subst e1
  exact va_put (ty := .int) (C := R_FF) (T := F_FF) (N := 14) (Ts := TT) hx hb (fun _ h => hT.use h) in_FF ft_FF ft_FF_ok n_FF hown hK hP hD hS 0 rfl rfl 13 (by decide) (hT.use q2_59) (fun _ h => h) rfl (by decide +kernel) rfl rfl (Nat.le_of_ble_eq_true rfl) hdg (fun H1 locs1 h1 h2 h3 => kk H1 locs1 h1 h2 h3)
theorem gF_row0_bytes (X : FX p s m meth c cc nL rt R_Row D (tyF ca) A) (hP : va_P D cls (wF ad ca g) H) (hdg : decode cc pc = .ok (.getfield 9, 3)) (kk : W p l e R s m args below meth c H locs 0 0 Q (F0 m (pc + 3) ls (.ref (ad 11) :: rest))) : W p l e R s m args below meth c H locs 0 0 Q (F0 m pc ls (.ref (ad 1) :: rest)) := by
  obtain ⟨hx, hb, -, -, -, hown, hT, hK, -⟩ := X
  exact va_get (C := R_Row) (T := F_Row) (N := 2) (Ts := TT) hx hb (fun _ h => hT.use h) in_Row hown hK hP 1 rfl rfl 0 (by decide) (hT.use q1_43) (fun _ h => h) rfl hdg kk
theorem gF_row0_length (X : FX p s m meth c cc nL rt R_Row D (tyF ca) A) (hP : va_P D cls (wF ad ca g) H) (hdg : decode cc pc = .ok (.getfield 15, 3)) (kk : W p l e R s m args below meth c H locs 0 0 Q (F0 m (pc + 3) ls (.int (g.1 0) :: rest))) : W p l e R s m args below meth c H locs 0 0 Q (F0 m pc ls (.ref (ad 1) :: rest)) := by
  obtain ⟨hx, hb, -, -, -, hown, hT, hK, -⟩ := X
  exact va_get (C := R_Row) (T := F_Row) (N := 2) (Ts := TT) hx hb (fun _ h => hT.use h) in_Row hown hK hP 1 rfl rfl 1 (by decide) (hT.use q1_44) (fun _ h => h) rfl hdg kk
theorem uF_row0_length (X : FX p s m meth c cc nL rt R_Row D (tyF ca) A) (hP : va_P D cls (wF ad ca g) H) (hD : va_D A (wF ad ca g)) (hS : va_S A s.heap H locs) {v : Int32} (e1 : setI g 0 v = g1) (hdg : decode cc pc = .ok (.putfield 15, 3)) (kk : ∀ (H1 : Heap) (locs1 : List Loc), va_P D cls (wF ad ca g1) H1 → va_D A (wF ad ca g1) → va_S A s.heap H1 locs1 → W p l e R s m args below meth c H1 locs1 0 0 Q (F0 m (pc + 3) ls rest)) : W p l e R s m args below meth c H locs 0 0 Q (F0 m pc ls (.int v :: .ref (ad 1) :: rest)) := by
  obtain ⟨hx, hb, -, -, -, hown, hT, hK, -⟩ := X
  subst e1
  exact va_put (ty := .int) (C := R_Row) (T := F_Row) (N := 2) (Ts := TT) hx hb (fun _ h => hT.use h) in_Row ft_Row ft_Row_ok n_Row hown hK hP hD hS 1 rfl rfl 1 (by decide) (hT.use q1_44) (fun _ h => h) rfl (by decide +kernel) rfl rfl (Nat.le_of_ble_eq_true rfl) hdg (fun H1 locs1 h1 h2 h3 => kk H1 locs1 h1 h2 h3)
theorem gF_row1_bytes (X : FX p s m meth c cc nL rt R_Row D (tyF ca) A) (hP : va_P D cls (wF ad ca g) H) (hdg : decode cc pc = .ok (.getfield 9, 3)) (kk : W p l e R s m args below meth c H locs 0 0 Q (F0 m (pc + 3) ls (.ref (ad 12) :: rest))) : W p l e R s m args below meth c H locs 0 0 Q (F0 m pc ls (.ref (ad 2) :: rest)) := by
  obtain ⟨hx, hb, -, -, -, hown, hT, hK, -⟩ := X
  exact va_get (C := R_Row) (T := F_Row) (N := 2) (Ts := TT) hx hb (fun _ h => hT.use h) in_Row hown hK hP 2 rfl rfl 0 (by decide) (hT.use q1_43) (fun _ h => h) rfl hdg kk
theorem gF_row1_length (X : FX p s m meth c cc nL rt R_Row D (tyF ca) A) (hP : va_P D cls (wF ad ca g) H) (hdg : decode cc pc = .ok (.getfield 15, 3)) (kk : W p l e R s m args below meth c H locs 0 0 Q (F0 m (pc + 3) ls (.int (g.1 1) :: rest))) : W p l e R s m args below meth c H locs 0 0 Q (F0 m pc ls (.ref (ad 2) :: rest)) := by
  obtain ⟨hx, hb, -, -, -, hown, hT, hK, -⟩ := X
  exact va_get (C := R_Row) (T := F_Row) (N := 2) (Ts := TT) hx hb (fun _ h => hT.use h) in_Row hown hK hP 2 rfl rfl 1 (by decide) (hT.use q1_44) (fun _ h => h) rfl hdg kk
theorem uF_row1_length (X : FX p s m meth c cc nL rt R_Row D (tyF ca) A) (hP : va_P D cls (wF ad ca g) H) (hD : va_D A (wF ad ca g)) (hS : va_S A s.heap H locs) {v : Int32} (e1 : setI g 1 v = g1) (hdg : decode cc pc = .ok (.putfield 15, 3)) (kk : ∀ (H1 : Heap) (locs1 : List Loc), va_P D cls (wF ad ca g1) H1 → va_D A (wF ad ca g1) → va_S A s.heap H1 locs1 → W p l e R s m args below meth c H1 locs1 0 0 Q (F0 m (pc + 3) ls rest)) : W p l e R s m args below meth c H locs 0 0 Q (F0 m pc ls (.int v :: .ref (ad 2) :: rest)) := by
  obtain ⟨hx, hb, -, -, -, hown, hT, hK, -⟩ := X
  subst e1
  exact va_put (ty := .int) (C := R_Row) (T := F_Row) (N := 2) (Ts := TT) hx hb (fun _ h => hT.use h) in_Row ft_Row ft_Row_ok n_Row hown hK hP hD hS 2 rfl rfl 1 (by decide) (hT.use q1_44) (fun _ h => h) rfl (by decide +kernel) rfl rfl (Nat.le_of_ble_eq_true rfl) hdg (fun H1 locs1 h1 h2 h3 => kk H1 locs1 h1 h2 h3)
theorem gF_dev_words (X : FX p s m meth c cc nL rt R_Dev D (tyF ca) A) (hP : va_P D cls (wF ad ca g) H) (hdg : decode cc pc = .ok (.getfield 10, 3)) (kk : W p l e R s m args below meth c H locs 0 0 Q (F0 m (pc + 3) ls (.ref (ad 15) :: rest))) : W p l e R s m args below meth c H locs 0 0 Q (F0 m pc ls (.ref (ad 3) :: rest)) := by
  obtain ⟨hx, hb, -, -, -, hown, hT, hK, -⟩ := X
  exact va_get (C := R_Dev) (T := F_Dev) (N := 3) (Ts := TT) hx hb (fun _ h => hT.use h) in_Dev hown hK hP 3 rfl rfl 0 (by decide) (hT.use q1_58) (fun _ h => h) rfl hdg kk
theorem gF_dev_written (X : FX p s m meth c cc nL rt R_Dev D (tyF ca) A) (hP : va_P D cls (wF ad ca g) H) (hdg : decode cc pc = .ok (.getfield 16, 3)) (kk : W p l e R s m args below meth c H locs 0 0 Q (F0 m (pc + 3) ls (.ref (ad 16) :: rest))) : W p l e R s m args below meth c H locs 0 0 Q (F0 m pc ls (.ref (ad 3) :: rest)) := by
  obtain ⟨hx, hb, -, -, -, hown, hT, hK, -⟩ := X
  exact va_get (C := R_Dev) (T := F_Dev) (N := 3) (Ts := TT) hx hb (fun _ h => hT.use h) in_Dev hown hK hP 3 rfl rfl 1 (by decide) (hT.use q1_59) (fun _ h => h) rfl hdg kk
theorem gF_dev_spoiled (X : FX p s m meth c cc nL rt R_Dev D (tyF ca) A) (hP : va_P D cls (wF ad ca g) H) (hdg : decode cc pc = .ok (.getfield 20, 3)) (kk : W p l e R s m args below meth c H locs 0 0 Q (F0 m (pc + 3) ls (.int (g.1 5) :: rest))) : W p l e R s m args below meth c H locs 0 0 Q (F0 m pc ls (.ref (ad 3) :: rest)) := by
  obtain ⟨hx, hb, -, -, -, hown, hT, hK, -⟩ := X
  exact va_get (C := R_Dev) (T := F_Dev) (N := 3) (Ts := TT) hx hb (fun _ h => hT.use h) in_Dev hown hK hP 3 rfl rfl 2 (by decide) (hT.use q1_60) (fun _ h => h) rfl hdg kk
theorem uF_dev_spoiled (X : FX p s m meth c cc nL rt R_Dev D (tyF ca) A) (hP : va_P D cls (wF ad ca g) H) (hD : va_D A (wF ad ca g)) (hS : va_S A s.heap H locs) {v : Int32} (e1 : setI g 5 v = g1) (hdg : decode cc pc = .ok (.putfield 20, 3)) (kk : ∀ (H1 : Heap) (locs1 : List Loc), va_P D cls (wF ad ca g1) H1 → va_D A (wF ad ca g1) → va_S A s.heap H1 locs1 → W p l e R s m args below meth c H1 locs1 0 0 Q (F0 m (pc + 3) ls rest)) : W p l e R s m args below meth c H locs 0 0 Q (F0 m pc ls (.int v :: .ref (ad 3) :: rest)) := by
  obtain ⟨hx, hb, -, -, -, hown, hT, hK, -⟩ := X
  subst e1
  exact va_put (ty := .int) (C := R_Dev) (T := F_Dev) (N := 3) (Ts := TT) hx hb (fun _ h => hT.use h) in_Dev ft_Dev ft_Dev_ok n_Dev hown hK hP hD hS 3 rfl rfl 2 (by decide) (hT.use q1_60) (fun _ h => h) rfl (by decide +kernel) rfl rfl (Nat.le_of_ble_eq_true rfl) hdg (fun H1 locs1 h1 h2 h3 => kk H1 locs1 h1 h2 h3)
theorem gF_tab_places (X : FX p s m meth c cc nL rt R_Tab D (tyF ca) A) (hP : va_P D cls (wF ad ca g) H) (hdg : decode cc pc = .ok (.getfield 9, 3)) (kk : W p l e R s m args below meth c H locs 0 0 Q (F0 m (pc + 3) ls (.ref (ad 17) :: rest))) : W p l e R s m args below meth c H locs 0 0 Q (F0 m pc ls (.ref (ad 4) :: rest)) := by
  obtain ⟨hx, hb, -, -, -, hown, hT, hK, -⟩ := X
  exact va_get (C := R_Tab) (T := F_Tab) (N := 3) (Ts := TT) hx hb (fun _ h => hT.use h) in_Tab hown hK hP 4 rfl rfl 0 (by decide) (hT.use q1_75) (fun _ h => h) rfl hdg kk
theorem gF_tab_kept (X : FX p s m meth c cc nL rt R_Tab D (tyF ca) A) (hP : va_P D cls (wF ad ca g) H) (hdg : decode cc pc = .ok (.getfield 15, 3)) (kk : W p l e R s m args below meth c H locs 0 0 Q (F0 m (pc + 3) ls (.ref (ad 18) :: rest))) : W p l e R s m args below meth c H locs 0 0 Q (F0 m pc ls (.ref (ad 4) :: rest)) := by
  obtain ⟨hx, hb, -, -, -, hown, hT, hK, -⟩ := X
  exact va_get (C := R_Tab) (T := F_Tab) (N := 3) (Ts := TT) hx hb (fun _ h => hT.use h) in_Tab hown hK hP 4 rfl rfl 1 (by decide) (hT.use q1_76) (fun _ h => h) rfl hdg kk
theorem gF_tab_stirred (X : FX p s m meth c cc nL rt R_Tab D (tyF ca) A) (hP : va_P D cls (wF ad ca g) H) (hdg : decode cc pc = .ok (.getfield 18, 3)) (kk : W p l e R s m args below meth c H locs 0 0 Q (F0 m (pc + 3) ls (.ref (ad 19) :: rest))) : W p l e R s m args below meth c H locs 0 0 Q (F0 m pc ls (.ref (ad 4) :: rest)) := by
  obtain ⟨hx, hb, -, -, -, hown, hT, hK, -⟩ := X
  exact va_get (C := R_Tab) (T := F_Tab) (N := 3) (Ts := TT) hx hb (fun _ h => hT.use h) in_Tab hown hK hP 4 rfl rfl 2 (by decide) (hT.use q1_77) (fun _ h => h) rfl hdg kk
theorem gF_log_device (X : FX p s m meth c cc nL rt R_Log D (tyF ca) A) (hP : va_P D cls (wF ad ca g) H) (hdg : decode cc pc = .ok (.getfield 9, 3)) (kk : W p l e R s m args below meth c H locs 0 0 Q (F0 m (pc + 3) ls (.ref (ad 3) :: rest))) : W p l e R s m args below meth c H locs 0 0 Q (F0 m pc ls (.ref (ad 5) :: rest)) := by
  obtain ⟨hx, hb, -, -, -, hown, hT, hK, -⟩ := X
  exact va_get (C := R_Log) (T := F_Log) (N := 12) (Ts := TT) hx hb (fun _ h => hT.use h) in_Log hown hK hP 5 rfl rfl 0 (by decide) (hT.use q1_91) (fun _ h => h) rfl hdg kk
theorem gF_log_table (X : FX p s m meth c cc nL rt R_Log D (tyF ca) A) (hP : va_P D cls (wF ad ca g) H) (hdg : decode cc pc = .ok (.getfield 15, 3)) (kk : W p l e R s m args below meth c H locs 0 0 Q (F0 m (pc + 3) ls (.ref (ad 4) :: rest))) : W p l e R s m args below meth c H locs 0 0 Q (F0 m pc ls (.ref (ad 5) :: rest)) := by
  obtain ⟨hx, hb, -, -, -, hown, hT, hK, -⟩ := X
  exact va_get (C := R_Log) (T := F_Log) (N := 12) (Ts := TT) hx hb (fun _ h => hT.use h) in_Log hown hK hP 5 rfl rfl 1 (by decide) (hT.use q1_92) (fun _ h => h) rfl hdg kk
theorem gF_log_use (X : FX p s m meth c cc nL rt R_Log D (tyF ca) A) (hP : va_P D cls (wF ad ca g) H) (hdg : decode cc pc = .ok (.getfield 19, 3)) (kk : W p l e R s m args below meth c H locs 0 0 Q (F0 m (pc + 3) ls (.ref (ad 20) :: rest))) : W p l e R s m args below meth c H locs 0 0 Q (F0 m pc ls (.ref (ad 5) :: rest)) := by
  obtain ⟨hx, hb, -, -, -, hown, hT, hK, -⟩ := X
  exact va_get (C := R_Log) (T := F_Log) (N := 12) (Ts := TT) hx hb (fun _ h => hT.use h) in_Log hown hK hP 5 rfl rfl 2 (by decide) (hT.use q1_93) (fun _ h => h) rfl hdg kk
theorem gF_log_nodes (X : FX p s m meth c cc nL rt R_Log D (tyF ca) A) (hP : va_P D cls (wF ad ca g) H) (hdg : decode cc pc = .ok (.getfield 23, 3)) (kk : W p l e R s m args below meth c H locs 0 0 Q (F0 m (pc + 3) ls (.ref (ad 21) :: rest))) : W p l e R s m args below meth c H locs 0 0 Q (F0 m pc ls (.ref (ad 5) :: rest)) := by
  obtain ⟨hx, hb, -, -, -, hown, hT, hK, -⟩ := X
  exact va_get (C := R_Log) (T := F_Log) (N := 12) (Ts := TT) hx hb (fun _ h => hT.use h) in_Log hown hK hP 5 rfl rfl 3 (by decide) (hT.use q1_94) (fun _ h => h) rfl hdg kk
theorem gF_log_data (X : FX p s m meth c cc nL rt R_Log D (tyF ca) A) (hP : va_P D cls (wF ad ca g) H) (hdg : decode cc pc = .ok (.getfield 26, 3)) (kk : W p l e R s m args below meth c H locs 0 0 Q (F0 m (pc + 3) ls (.ref (ad 22) :: rest))) : W p l e R s m args below meth c H locs 0 0 Q (F0 m pc ls (.ref (ad 5) :: rest)) := by
  obtain ⟨hx, hb, -, -, -, hown, hT, hK, -⟩ := X
  exact va_get (C := R_Log) (T := F_Log) (N := 12) (Ts := TT) hx hb (fun _ h => hT.use h) in_Log hown hK hP 5 rfl rfl 4 (by decide) (hT.use q1_95) (fun _ h => h) rfl hdg kk
theorem gF_log_free (X : FX p s m meth c cc nL rt R_Log D (tyF ca) A) (hP : va_P D cls (wF ad ca g) H) (hdg : decode cc pc = .ok (.getfield 29, 3)) (kk : W p l e R s m args below meth c H locs 0 0 Q (F0 m (pc + 3) ls (.ref (ad 23) :: rest))) : W p l e R s m args below meth c H locs 0 0 Q (F0 m pc ls (.ref (ad 5) :: rest)) := by
  obtain ⟨hx, hb, -, -, -, hown, hT, hK, -⟩ := X
  exact va_get (C := R_Log) (T := F_Log) (N := 12) (Ts := TT) hx hb (fun _ h => hT.use h) in_Log hown hK hP 5 rfl rfl 5 (by decide) (hT.use q1_96) (fun _ h => h) rfl hdg kk
theorem gF_log_segments (X : FX p s m meth c cc nL rt R_Log D (tyF ca) A) (hP : va_P D cls (wF ad ca g) H) (hdg : decode cc pc = .ok (.getfield 39, 3)) (kk : W p l e R s m args below meth c H locs 0 0 Q (F0 m (pc + 3) ls (.int (g.1 6) :: rest))) : W p l e R s m args below meth c H locs 0 0 Q (F0 m pc ls (.ref (ad 5) :: rest)) := by
  obtain ⟨hx, hb, -, -, -, hown, hT, hK, -⟩ := X
  exact va_get (C := R_Log) (T := F_Log) (N := 12) (Ts := TT) hx hb (fun _ h => hT.use h) in_Log hown hK hP 5 rfl rfl 6 (by decide) (hT.use q1_97) (fun _ h => h) rfl hdg kk
theorem uF_log_segments (X : FX p s m meth c cc nL rt R_Log D (tyF ca) A) (hP : va_P D cls (wF ad ca g) H) (hD : va_D A (wF ad ca g)) (hS : va_S A s.heap H locs) {v : Int32} (e1 : setI g 6 v = g1) (hdg : decode cc pc = .ok (.putfield 39, 3)) (kk : ∀ (H1 : Heap) (locs1 : List Loc), va_P D cls (wF ad ca g1) H1 → va_D A (wF ad ca g1) → va_S A s.heap H1 locs1 → W p l e R s m args below meth c H1 locs1 0 0 Q (F0 m (pc + 3) ls rest)) : W p l e R s m args below meth c H locs 0 0 Q (F0 m pc ls (.int v :: .ref (ad 5) :: rest)) := by
  obtain ⟨hx, hb, -, -, -, hown, hT, hK, -⟩ := X
  subst e1
  exact va_put (ty := .int) (C := R_Log) (T := F_Log) (N := 12) (Ts := TT) hx hb (fun _ h => hT.use h) in_Log ft_Log ft_Log_ok n_Log hown hK hP hD hS 5 rfl rfl 6 (by decide) (hT.use q1_97) (fun _ h => h) rfl (by decide +kernel) rfl rfl (Nat.le_of_ble_eq_true rfl) hdg (fun H1 locs1 h1 h2 h3 => kk H1 locs1 h1 h2 h3)
theorem gF_log_freeSegments (X : FX p s m meth c cc nL rt R_Log D (tyF ca) A) (hP : va_P D cls (wF ad ca g) H) (hdg : decode cc pc = .ok (.getfield 43, 3)) (kk : W p l e R s m args below meth c H locs 0 0 Q (F0 m (pc + 3) ls (.int (g.1 7) :: rest))) : W p l e R s m args below meth c H locs 0 0 Q (F0 m pc ls (.ref (ad 5) :: rest)) := by
  obtain ⟨hx, hb, -, -, -, hown, hT, hK, -⟩ := X
  exact va_get (C := R_Log) (T := F_Log) (N := 12) (Ts := TT) hx hb (fun _ h => hT.use h) in_Log hown hK hP 5 rfl rfl 7 (by decide) (hT.use q1_98) (fun _ h => h) rfl hdg kk
theorem uF_log_freeSegments (X : FX p s m meth c cc nL rt R_Log D (tyF ca) A) (hP : va_P D cls (wF ad ca g) H) (hD : va_D A (wF ad ca g)) (hS : va_S A s.heap H locs) {v : Int32} (e1 : setI g 7 v = g1) (hdg : decode cc pc = .ok (.putfield 43, 3)) (kk : ∀ (H1 : Heap) (locs1 : List Loc), va_P D cls (wF ad ca g1) H1 → va_D A (wF ad ca g1) → va_S A s.heap H1 locs1 → W p l e R s m args below meth c H1 locs1 0 0 Q (F0 m (pc + 3) ls rest)) : W p l e R s m args below meth c H locs 0 0 Q (F0 m pc ls (.int v :: .ref (ad 5) :: rest)) := by
  obtain ⟨hx, hb, -, -, -, hown, hT, hK, -⟩ := X
  subst e1
  exact va_put (ty := .int) (C := R_Log) (T := F_Log) (N := 12) (Ts := TT) hx hb (fun _ h => hT.use h) in_Log ft_Log ft_Log_ok n_Log hown hK hP hD hS 5 rfl rfl 7 (by decide) (hT.use q1_98) (fun _ h => h) rfl (by decide +kernel) rfl rfl (Nat.le_of_ble_eq_true rfl) hdg (fun H1 locs1 h1 h2 h3 => kk H1 locs1 h1 h2 h3)
theorem gF_log_nodeEnd (X : FX p s m meth c cc nL rt R_Log D (tyF ca) A) (hP : va_P D cls (wF ad ca g) H) (hdg : decode cc pc = .ok (.getfield 46, 3)) (kk : W p l e R s m args below meth c H locs 0 0 Q (F0 m (pc + 3) ls (.int (g.1 8) :: rest))) : W p l e R s m args below meth c H locs 0 0 Q (F0 m pc ls (.ref (ad 5) :: rest)) := by
  obtain ⟨hx, hb, -, -, -, hown, hT, hK, -⟩ := X
  exact va_get (C := R_Log) (T := F_Log) (N := 12) (Ts := TT) hx hb (fun _ h => hT.use h) in_Log hown hK hP 5 rfl rfl 8 (by decide) (hT.use q1_99) (fun _ h => h) rfl hdg kk
theorem uF_log_nodeEnd (X : FX p s m meth c cc nL rt R_Log D (tyF ca) A) (hP : va_P D cls (wF ad ca g) H) (hD : va_D A (wF ad ca g)) (hS : va_S A s.heap H locs) {v : Int32} (e1 : setI g 8 v = g1) (hdg : decode cc pc = .ok (.putfield 46, 3)) (kk : ∀ (H1 : Heap) (locs1 : List Loc), va_P D cls (wF ad ca g1) H1 → va_D A (wF ad ca g1) → va_S A s.heap H1 locs1 → W p l e R s m args below meth c H1 locs1 0 0 Q (F0 m (pc + 3) ls rest)) : W p l e R s m args below meth c H locs 0 0 Q (F0 m pc ls (.int v :: .ref (ad 5) :: rest)) := by
  obtain ⟨hx, hb, -, -, -, hown, hT, hK, -⟩ := X
  subst e1
  exact va_put (ty := .int) (C := R_Log) (T := F_Log) (N := 12) (Ts := TT) hx hb (fun _ h => hT.use h) in_Log ft_Log ft_Log_ok n_Log hown hK hP hD hS 5 rfl rfl 8 (by decide) (hT.use q1_99) (fun _ h => h) rfl (by decide +kernel) rfl rfl (Nat.le_of_ble_eq_true rfl) hdg (fun H1 locs1 h1 h2 h3 => kk H1 locs1 h1 h2 h3)
theorem gF_log_dataEnd (X : FX p s m meth c cc nL rt R_Log D (tyF ca) A) (hP : va_P D cls (wF ad ca g) H) (hdg : decode cc pc = .ok (.getfield 49, 3)) (kk : W p l e R s m args below meth c H locs 0 0 Q (F0 m (pc + 3) ls (.int (g.1 9) :: rest))) : W p l e R s m args below meth c H locs 0 0 Q (F0 m pc ls (.ref (ad 5) :: rest)) := by
  obtain ⟨hx, hb, -, -, -, hown, hT, hK, -⟩ := X
  exact va_get (C := R_Log) (T := F_Log) (N := 12) (Ts := TT) hx hb (fun _ h => hT.use h) in_Log hown hK hP 5 rfl rfl 9 (by decide) (hT.use q1_100) (fun _ h => h) rfl hdg kk
theorem uF_log_dataEnd (X : FX p s m meth c cc nL rt R_Log D (tyF ca) A) (hP : va_P D cls (wF ad ca g) H) (hD : va_D A (wF ad ca g)) (hS : va_S A s.heap H locs) {v : Int32} (e1 : setI g 9 v = g1) (hdg : decode cc pc = .ok (.putfield 49, 3)) (kk : ∀ (H1 : Heap) (locs1 : List Loc), va_P D cls (wF ad ca g1) H1 → va_D A (wF ad ca g1) → va_S A s.heap H1 locs1 → W p l e R s m args below meth c H1 locs1 0 0 Q (F0 m (pc + 3) ls rest)) : W p l e R s m args below meth c H locs 0 0 Q (F0 m pc ls (.int v :: .ref (ad 5) :: rest)) := by
  obtain ⟨hx, hb, -, -, -, hown, hT, hK, -⟩ := X
  subst e1
  exact va_put (ty := .int) (C := R_Log) (T := F_Log) (N := 12) (Ts := TT) hx hb (fun _ h => hT.use h) in_Log ft_Log ft_Log_ok n_Log hown hK hP hD hS 5 rfl rfl 9 (by decide) (hT.use q1_100) (fun _ h => h) rfl (by decide +kernel) rfl rfl (Nat.le_of_ble_eq_true rfl) hdg (fun H1 locs1 h1 h2 h3 => kk H1 locs1 h1 h2 h3)
theorem gF_log_lastOpened (X : FX p s m meth c cc nL rt R_Log D (tyF ca) A) (hP : va_P D cls (wF ad ca g) H) (hdg : decode cc pc = .ok (.getfield 52, 3)) (kk : W p l e R s m args below meth c H locs 0 0 Q (F0 m (pc + 3) ls (.int (g.1 10) :: rest))) : W p l e R s m args below meth c H locs 0 0 Q (F0 m pc ls (.ref (ad 5) :: rest)) := by
  obtain ⟨hx, hb, -, -, -, hown, hT, hK, -⟩ := X
  exact va_get (C := R_Log) (T := F_Log) (N := 12) (Ts := TT) hx hb (fun _ h => hT.use h) in_Log hown hK hP 5 rfl rfl 10 (by decide) (hT.use q1_101) (fun _ h => h) rfl hdg kk
theorem uF_log_lastOpened (X : FX p s m meth c cc nL rt R_Log D (tyF ca) A) (hP : va_P D cls (wF ad ca g) H) (hD : va_D A (wF ad ca g)) (hS : va_S A s.heap H locs) {v : Int32} (e1 : setI g 10 v = g1) (hdg : decode cc pc = .ok (.putfield 52, 3)) (kk : ∀ (H1 : Heap) (locs1 : List Loc), va_P D cls (wF ad ca g1) H1 → va_D A (wF ad ca g1) → va_S A s.heap H1 locs1 → W p l e R s m args below meth c H1 locs1 0 0 Q (F0 m (pc + 3) ls rest)) : W p l e R s m args below meth c H locs 0 0 Q (F0 m pc ls (.int v :: .ref (ad 5) :: rest)) := by
  obtain ⟨hx, hb, -, -, -, hown, hT, hK, -⟩ := X
  subst e1
  exact va_put (ty := .int) (C := R_Log) (T := F_Log) (N := 12) (Ts := TT) hx hb (fun _ h => hT.use h) in_Log ft_Log ft_Log_ok n_Log hown hK hP hD hS 5 rfl rfl 10 (by decide) (hT.use q1_101) (fun _ h => h) rfl (by decide +kernel) rfl rfl (Nat.le_of_ble_eq_true rfl) hdg (fun H1 locs1 h1 h2 h3 => kk H1 locs1 h1 h2 h3)
theorem gF_log_serial (X : FX p s m meth c cc nL rt R_Log D (tyF ca) A) (hP : va_P D cls (wF ad ca g) H) (hdg : decode cc pc = .ok (.getfield 55, 3)) (kk : W p l e R s m args below meth c H locs 0 0 Q (F0 m (pc + 3) ls (.int (g.1 11) :: rest))) : W p l e R s m args below meth c H locs 0 0 Q (F0 m pc ls (.ref (ad 5) :: rest)) := by
  obtain ⟨hx, hb, -, -, -, hown, hT, hK, -⟩ := X
  exact va_get (C := R_Log) (T := F_Log) (N := 12) (Ts := TT) hx hb (fun _ h => hT.use h) in_Log hown hK hP 5 rfl rfl 11 (by decide) (hT.use q1_102) (fun _ h => h) rfl hdg kk
theorem uF_log_serial (X : FX p s m meth c cc nL rt R_Log D (tyF ca) A) (hP : va_P D cls (wF ad ca g) H) (hD : va_D A (wF ad ca g)) (hS : va_S A s.heap H locs) {v : Int32} (e1 : setI g 11 v = g1) (hdg : decode cc pc = .ok (.putfield 55, 3)) (kk : ∀ (H1 : Heap) (locs1 : List Loc), va_P D cls (wF ad ca g1) H1 → va_D A (wF ad ca g1) → va_S A s.heap H1 locs1 → W p l e R s m args below meth c H1 locs1 0 0 Q (F0 m (pc + 3) ls rest)) : W p l e R s m args below meth c H locs 0 0 Q (F0 m pc ls (.int v :: .ref (ad 5) :: rest)) := by
  obtain ⟨hx, hb, -, -, -, hown, hT, hK, -⟩ := X
  subst e1
  exact va_put (ty := .int) (C := R_Log) (T := F_Log) (N := 12) (Ts := TT) hx hb (fun _ h => hT.use h) in_Log ft_Log ft_Log_ok n_Log hown hK hP hD hS 5 rfl rfl 11 (by decide) (hT.use q1_102) (fun _ h => h) rfl (by decide +kernel) rfl rfl (Nat.le_of_ble_eq_true rfl) hdg (fun H1 locs1 h1 h2 h3 => kk H1 locs1 h1 h2 h3)
theorem gF_fil_device (X : FX p s m meth c cc nL rt R_Fil D (tyF ca) A) (hP : va_P D cls (wF ad ca g) H) (hdg : decode cc pc = .ok (.getfield 9, 3)) (kk : W p l e R s m args below meth c H locs 0 0 Q (F0 m (pc + 3) ls (.ref (ad 3) :: rest))) : W p l e R s m args below meth c H locs 0 0 Q (F0 m pc ls (.ref (ad 6) :: rest)) := by
  obtain ⟨hx, hb, -, -, -, hown, hT, hK, -⟩ := X
  exact va_get (C := R_Fil) (T := F_Fil) (N := 11) (Ts := TT) hx hb (fun _ h => hT.use h) in_Fil hown hK hP 6 rfl rfl 0 (by decide) (hT.use q1_134) (fun _ h => h) rfl hdg kk
theorem gF_fil_table (X : FX p s m meth c cc nL rt R_Fil D (tyF ca) A) (hP : va_P D cls (wF ad ca g) H) (hdg : decode cc pc = .ok (.getfield 15, 3)) (kk : W p l e R s m args below meth c H locs 0 0 Q (F0 m (pc + 3) ls (.ref (ad 4) :: rest))) : W p l e R s m args below meth c H locs 0 0 Q (F0 m pc ls (.ref (ad 6) :: rest)) := by
  obtain ⟨hx, hb, -, -, -, hown, hT, hK, -⟩ := X
  exact va_get (C := R_Fil) (T := F_Fil) (N := 11) (Ts := TT) hx hb (fun _ h => hT.use h) in_Fil hown hK hP 6 rfl rfl 1 (by decide) (hT.use q1_135) (fun _ h => h) rfl hdg kk
theorem gF_fil_log (X : FX p s m meth c cc nL rt R_Fil D (tyF ca) A) (hP : va_P D cls (wF ad ca g) H) (hdg : decode cc pc = .ok (.getfield 19, 3)) (kk : W p l e R s m args below meth c H locs 0 0 Q (F0 m (pc + 3) ls (.ref (ad 5) :: rest))) : W p l e R s m args below meth c H locs 0 0 Q (F0 m pc ls (.ref (ad 6) :: rest)) := by
  obtain ⟨hx, hb, -, -, -, hown, hT, hK, -⟩ := X
  exact va_get (C := R_Fil) (T := F_Fil) (N := 11) (Ts := TT) hx hb (fun _ h => hT.use h) in_Fil hown hK hP 6 rfl rfl 2 (by decide) (hT.use q1_136) (fun _ h => h) rfl hdg kk
theorem gF_fil_inode (X : FX p s m meth c cc nL rt R_Fil D (tyF ca) A) (hP : va_P D cls (wF ad ca g) H) (hdg : decode cc pc = .ok (.getfield 23, 3)) (kk : W p l e R s m args below meth c H locs 0 0 Q (F0 m (pc + 3) ls (.ref (ad 24) :: rest))) : W p l e R s m args below meth c H locs 0 0 Q (F0 m pc ls (.ref (ad 6) :: rest)) := by
  obtain ⟨hx, hb, -, -, -, hown, hT, hK, -⟩ := X
  exact va_get (C := R_Fil) (T := F_Fil) (N := 11) (Ts := TT) hx hb (fun _ h => hT.use h) in_Fil hown hK hP 6 rfl rfl 3 (by decide) (hT.use q1_137) (fun _ h => h) rfl hdg kk
theorem gF_fil_indirect (X : FX p s m meth c cc nL rt R_Fil D (tyF ca) A) (hP : va_P D cls (wF ad ca g) H) (hdg : decode cc pc = .ok (.getfield 27, 3)) (kk : W p l e R s m args below meth c H locs 0 0 Q (F0 m (pc + 3) ls (.ref (ad 25) :: rest))) : W p l e R s m args below meth c H locs 0 0 Q (F0 m pc ls (.ref (ad 6) :: rest)) := by
  obtain ⟨hx, hb, -, -, -, hown, hT, hK, -⟩ := X
  exact va_get (C := R_Fil) (T := F_Fil) (N := 11) (Ts := TT) hx hb (fun _ h => hT.use h) in_Fil hown hK hP 6 rfl rfl 4 (by decide) (hT.use q1_138) (fun _ h => h) rfl hdg kk
theorem gF_fil_direct (X : FX p s m meth c cc nL rt R_Fil D (tyF ca) A) (hP : va_P D cls (wF ad ca g) H) (hdg : decode cc pc = .ok (.getfield 30, 3)) (kk : W p l e R s m args below meth c H locs 0 0 Q (F0 m (pc + 3) ls (.ref (ad 26) :: rest))) : W p l e R s m args below meth c H locs 0 0 Q (F0 m pc ls (.ref (ad 6) :: rest)) := by
  obtain ⟨hx, hb, -, -, -, hown, hT, hK, -⟩ := X
  exact va_get (C := R_Fil) (T := F_Fil) (N := 11) (Ts := TT) hx hb (fun _ h => hT.use h) in_Fil hown hK hP 6 rfl rfl 5 (by decide) (hT.use q1_139) (fun _ h => h) rfl hdg kk
theorem gF_fil_block (X : FX p s m meth c cc nL rt R_Fil D (tyF ca) A) (hP : va_P D cls (wF ad ca g) H) (hdg : decode cc pc = .ok (.getfield 33, 3)) (kk : W p l e R s m args below meth c H locs 0 0 Q (F0 m (pc + 3) ls (.ref (ad 27) :: rest))) : W p l e R s m args below meth c H locs 0 0 Q (F0 m pc ls (.ref (ad 6) :: rest)) := by
  obtain ⟨hx, hb, -, -, -, hown, hT, hK, -⟩ := X
  exact va_get (C := R_Fil) (T := F_Fil) (N := 11) (Ts := TT) hx hb (fun _ h => hT.use h) in_Fil hown hK hP 6 rfl rfl 6 (by decide) (hT.use q1_140) (fun _ h => h) rfl hdg kk
theorem gF_fil_id (X : FX p s m meth c cc nL rt R_Fil D (tyF ca) A) (hP : va_P D cls (wF ad ca g) H) (hdg : decode cc pc = .ok (.getfield 140, 3)) (kk : W p l e R s m args below meth c H locs 0 0 Q (F0 m (pc + 3) ls (.int (g.1 12) :: rest))) : W p l e R s m args below meth c H locs 0 0 Q (F0 m pc ls (.ref (ad 6) :: rest)) := by
  obtain ⟨hx, hb, -, -, -, hown, hT, hK, -⟩ := X
  exact va_get (C := R_Fil) (T := F_Fil) (N := 11) (Ts := TT) hx hb (fun _ h => hT.use h) in_Fil hown hK hP 6 rfl rfl 7 (by decide) (hT.use q1_141) (fun _ h => h) rfl hdg kk
theorem uF_fil_id (X : FX p s m meth c cc nL rt R_Fil D (tyF ca) A) (hP : va_P D cls (wF ad ca g) H) (hD : va_D A (wF ad ca g)) (hS : va_S A s.heap H locs) {v : Int32} (e1 : setI g 12 v = g1) (hdg : decode cc pc = .ok (.putfield 140, 3)) (kk : ∀ (H1 : Heap) (locs1 : List Loc), va_P D cls (wF ad ca g1) H1 → va_D A (wF ad ca g1) → va_S A s.heap H1 locs1 → W p l e R s m args below meth c H1 locs1 0 0 Q (F0 m (pc + 3) ls rest)) : W p l e R s m args below meth c H locs 0 0 Q (F0 m pc ls (.int v :: .ref (ad 6) :: rest)) := by
  obtain ⟨hx, hb, -, -, -, hown, hT, hK, -⟩ := X
  subst e1
  exact va_put (ty := .int) (C := R_Fil) (T := F_Fil) (N := 11) (Ts := TT) hx hb (fun _ h => hT.use h) in_Fil ft_Fil ft_Fil_ok n_Fil hown hK hP hD hS 6 rfl rfl 7 (by decide) (hT.use q1_141) (fun _ h => h) rfl (by decide +kernel) rfl rfl (Nat.le_of_ble_eq_true rfl) hdg (fun H1 locs1 h1 h2 h3 => kk H1 locs1 h1 h2 h3)
theorem gF_fil_opened (X : FX p s m meth c cc nL rt R_Fil D (tyF ca) A) (hP : va_P D cls (wF ad ca g) H) (hdg : decode cc pc = .ok (.getfield 144, 3)) (kk : W p l e R s m args below meth c H locs 0 0 Q (F0 m (pc + 3) ls (.int (g.1 13) :: rest))) : W p l e R s m args below meth c H locs 0 0 Q (F0 m pc ls (.ref (ad 6) :: rest)) := by
  obtain ⟨hx, hb, -, -, -, hown, hT, hK, -⟩ := X
  exact va_get (C := R_Fil) (T := F_Fil) (N := 11) (Ts := TT) hx hb (fun _ h => hT.use h) in_Fil hown hK hP 6 rfl rfl 8 (by decide) (hT.use q1_142) (fun _ h => h) rfl hdg kk
theorem uF_fil_opened (X : FX p s m meth c cc nL rt R_Fil D (tyF ca) A) (hP : va_P D cls (wF ad ca g) H) (hD : va_D A (wF ad ca g)) (hS : va_S A s.heap H locs) {v : Int32} (e1 : setI g 13 v = g1) (hdg : decode cc pc = .ok (.putfield 144, 3)) (kk : ∀ (H1 : Heap) (locs1 : List Loc), va_P D cls (wF ad ca g1) H1 → va_D A (wF ad ca g1) → va_S A s.heap H1 locs1 → W p l e R s m args below meth c H1 locs1 0 0 Q (F0 m (pc + 3) ls rest)) : W p l e R s m args below meth c H locs 0 0 Q (F0 m pc ls (.int v :: .ref (ad 6) :: rest)) := by
  obtain ⟨hx, hb, -, -, -, hown, hT, hK, -⟩ := X
  subst e1
  exact va_put (ty := .int) (C := R_Fil) (T := F_Fil) (N := 11) (Ts := TT) hx hb (fun _ h => hT.use h) in_Fil ft_Fil ft_Fil_ok n_Fil hown hK hP hD hS 6 rfl rfl 8 (by decide) (hT.use q1_142) (fun _ h => h) rfl (by decide +kernel) rfl rfl (Nat.le_of_ble_eq_true rfl) hdg (fun H1 locs1 h1 h2 h3 => kk H1 locs1 h1 h2 h3)
theorem gF_fil_directChanged (X : FX p s m meth c cc nL rt R_Fil D (tyF ca) A) (hP : va_P D cls (wF ad ca g) H) (hdg : decode cc pc = .ok (.getfield 147, 3)) (kk : W p l e R s m args below meth c H locs 0 0 Q (F0 m (pc + 3) ls (.int (g.1 14) :: rest))) : W p l e R s m args below meth c H locs 0 0 Q (F0 m pc ls (.ref (ad 6) :: rest)) := by
  obtain ⟨hx, hb, -, -, -, hown, hT, hK, -⟩ := X
  exact va_get (C := R_Fil) (T := F_Fil) (N := 11) (Ts := TT) hx hb (fun _ h => hT.use h) in_Fil hown hK hP 6 rfl rfl 9 (by decide) (hT.use q1_143) (fun _ h => h) rfl hdg kk
theorem uF_fil_directChanged (X : FX p s m meth c cc nL rt R_Fil D (tyF ca) A) (hP : va_P D cls (wF ad ca g) H) (hD : va_D A (wF ad ca g)) (hS : va_S A s.heap H locs) {v : Int32} (hz : v = 0 ∨ v = 1) (e1 : setI g 14 v = g1) (hdg : decode cc pc = .ok (.putfield 147, 3)) (kk : ∀ (H1 : Heap) (locs1 : List Loc), va_P D cls (wF ad ca g1) H1 → va_D A (wF ad ca g1) → va_S A s.heap H1 locs1 → W p l e R s m args below meth c H1 locs1 0 0 Q (F0 m (pc + 3) ls rest)) : W p l e R s m args below meth c H locs 0 0 Q (F0 m pc ls (.int v :: .ref (ad 6) :: rest)) := by
  obtain ⟨hx, hb, -, -, -, hown, hT, hK, -⟩ := X
  subst e1
  have hn : narrow .boolean (.int v) = .int v := by rcases hz with rfl | rfl <;> rfl
  exact va_put (ty := .boolean) (C := R_Fil) (T := F_Fil) (N := 11) (Ts := TT) hx hb (fun _ h => hT.use h) in_Fil ft_Fil ft_Fil_ok n_Fil hown hK hP hD hS 6 rfl rfl 9 (by decide) (hT.use q1_143) (fun _ h => h) rfl (by decide +kernel) hn (by rcases hz with rfl | rfl <;> rfl) (Nat.le_of_ble_eq_true rfl) hdg (fun H1 locs1 h1 h2 h3 => kk H1 locs1 h1 h2 h3)
theorem gF_fil_indirectChanged (X : FX p s m meth c cc nL rt R_Fil D (tyF ca) A) (hP : va_P D cls (wF ad ca g) H) (hdg : decode cc pc = .ok (.getfield 151, 3)) (kk : W p l e R s m args below meth c H locs 0 0 Q (F0 m (pc + 3) ls (.int (g.1 15) :: rest))) : W p l e R s m args below meth c H locs 0 0 Q (F0 m pc ls (.ref (ad 6) :: rest)) := by
  obtain ⟨hx, hb, -, -, -, hown, hT, hK, -⟩ := X
  exact va_get (C := R_Fil) (T := F_Fil) (N := 11) (Ts := TT) hx hb (fun _ h => hT.use h) in_Fil hown hK hP 6 rfl rfl 10 (by decide) (hT.use q1_144) (fun _ h => h) rfl hdg kk
theorem uF_fil_indirectChanged (X : FX p s m meth c cc nL rt R_Fil D (tyF ca) A) (hP : va_P D cls (wF ad ca g) H) (hD : va_D A (wF ad ca g)) (hS : va_S A s.heap H locs) {v : Int32} (hz : v = 0 ∨ v = 1) (e1 : setI g 15 v = g1) (hdg : decode cc pc = .ok (.putfield 151, 3)) (kk : ∀ (H1 : Heap) (locs1 : List Loc), va_P D cls (wF ad ca g1) H1 → va_D A (wF ad ca g1) → va_S A s.heap H1 locs1 → W p l e R s m args below meth c H1 locs1 0 0 Q (F0 m (pc + 3) ls rest)) : W p l e R s m args below meth c H locs 0 0 Q (F0 m pc ls (.int v :: .ref (ad 6) :: rest)) := by
  obtain ⟨hx, hb, -, -, -, hown, hT, hK, -⟩ := X
  subst e1
  have hn : narrow .boolean (.int v) = .int v := by rcases hz with rfl | rfl <;> rfl
  exact va_put (ty := .boolean) (C := R_Fil) (T := F_Fil) (N := 11) (Ts := TT) hx hb (fun _ h => hT.use h) in_Fil ft_Fil ft_Fil_ok n_Fil hown hK hP hD hS 6 rfl rfl 10 (by decide) (hT.use q1_144) (fun _ h => h) rfl (by decide +kernel) hn (by rcases hz with rfl | rfl <;> rfl) (Nat.le_of_ble_eq_true rfl) hdg (fun H1 locs1 h1 h2 h3 => kk H1 locs1 h1 h2 h3)
theorem gF_tre_device (X : FX p s m meth c cc nL rt R_Tre D (tyF ca) A) (hP : va_P D cls (wF ad ca g) H) (hdg : decode cc pc = .ok (.getfield 9, 3)) (kk : W p l e R s m args below meth c H locs 0 0 Q (F0 m (pc + 3) ls (.ref (ad 3) :: rest))) : W p l e R s m args below meth c H locs 0 0 Q (F0 m pc ls (.ref (ad 7) :: rest)) := by
  obtain ⟨hx, hb, -, -, -, hown, hT, hK, -⟩ := X
  exact va_get (C := R_Tre) (T := F_Tre) (N := 5) (Ts := TT) hx hb (fun _ h => hT.use h) in_Tre hown hK hP 7 rfl rfl 0 (by decide) (hT.use q1_174) (fun _ h => h) rfl hdg kk
theorem gF_tre_table (X : FX p s m meth c cc nL rt R_Tre D (tyF ca) A) (hP : va_P D cls (wF ad ca g) H) (hdg : decode cc pc = .ok (.getfield 15, 3)) (kk : W p l e R s m args below meth c H locs 0 0 Q (F0 m (pc + 3) ls (.ref (ad 4) :: rest))) : W p l e R s m args below meth c H locs 0 0 Q (F0 m pc ls (.ref (ad 7) :: rest)) := by
  obtain ⟨hx, hb, -, -, -, hown, hT, hK, -⟩ := X
  exact va_get (C := R_Tre) (T := F_Tre) (N := 5) (Ts := TT) hx hb (fun _ h => hT.use h) in_Tre hown hK hP 7 rfl rfl 1 (by decide) (hT.use q1_175) (fun _ h => h) rfl hdg kk
theorem gF_tre_log (X : FX p s m meth c cc nL rt R_Tre D (tyF ca) A) (hP : va_P D cls (wF ad ca g) H) (hdg : decode cc pc = .ok (.getfield 19, 3)) (kk : W p l e R s m args below meth c H locs 0 0 Q (F0 m (pc + 3) ls (.ref (ad 5) :: rest))) : W p l e R s m args below meth c H locs 0 0 Q (F0 m pc ls (.ref (ad 7) :: rest)) := by
  obtain ⟨hx, hb, -, -, -, hown, hT, hK, -⟩ := X
  exact va_get (C := R_Tre) (T := F_Tre) (N := 5) (Ts := TT) hx hb (fun _ h => hT.use h) in_Tre hown hK hP 7 rfl rfl 2 (by decide) (hT.use q1_176) (fun _ h => h) rfl hdg kk
theorem gF_tre_inode (X : FX p s m meth c cc nL rt R_Tre D (tyF ca) A) (hP : va_P D cls (wF ad ca g) H) (hdg : decode cc pc = .ok (.getfield 23, 3)) (kk : W p l e R s m args below meth c H locs 0 0 Q (F0 m (pc + 3) ls (.ref (ad 28) :: rest))) : W p l e R s m args below meth c H locs 0 0 Q (F0 m pc ls (.ref (ad 7) :: rest)) := by
  obtain ⟨hx, hb, -, -, -, hown, hT, hK, -⟩ := X
  exact va_get (C := R_Tre) (T := F_Tre) (N := 5) (Ts := TT) hx hb (fun _ h => hT.use h) in_Tre hown hK hP 7 rfl rfl 3 (by decide) (hT.use q1_177) (fun _ h => h) rfl hdg kk
theorem gF_tre_entry (X : FX p s m meth c cc nL rt R_Tre D (tyF ca) A) (hP : va_P D cls (wF ad ca g) H) (hdg : decode cc pc = .ok (.getfield 27, 3)) (kk : W p l e R s m args below meth c H locs 0 0 Q (F0 m (pc + 3) ls (.ref (ad 29) :: rest))) : W p l e R s m args below meth c H locs 0 0 Q (F0 m pc ls (.ref (ad 7) :: rest)) := by
  obtain ⟨hx, hb, -, -, -, hown, hT, hK, -⟩ := X
  exact va_get (C := R_Tre) (T := F_Tre) (N := 5) (Ts := TT) hx hb (fun _ h => hT.use h) in_Tre hown hK hP 7 rfl rfl 4 (by decide) (hT.use q1_178) (fun _ h => h) rfl hdg kk
theorem gF_cle_device (X : FX p s m meth c cc nL rt R_Cle D (tyF ca) A) (hP : va_P D cls (wF ad ca g) H) (hdg : decode cc pc = .ok (.getfield 9, 3)) (kk : W p l e R s m args below meth c H locs 0 0 Q (F0 m (pc + 3) ls (.ref (ad 3) :: rest))) : W p l e R s m args below meth c H locs 0 0 Q (F0 m pc ls (.ref (ad 8) :: rest)) := by
  obtain ⟨hx, hb, -, -, -, hown, hT, hK, -⟩ := X
  exact va_get (C := R_Cle) (T := F_Cle) (N := 6) (Ts := TT) hx hb (fun _ h => hT.use h) in_Cle hown hK hP 8 rfl rfl 0 (by decide) (hT.use q1_198) (fun _ h => h) rfl hdg kk
theorem gF_cle_table (X : FX p s m meth c cc nL rt R_Cle D (tyF ca) A) (hP : va_P D cls (wF ad ca g) H) (hdg : decode cc pc = .ok (.getfield 15, 3)) (kk : W p l e R s m args below meth c H locs 0 0 Q (F0 m (pc + 3) ls (.ref (ad 4) :: rest))) : W p l e R s m args below meth c H locs 0 0 Q (F0 m pc ls (.ref (ad 8) :: rest)) := by
  obtain ⟨hx, hb, -, -, -, hown, hT, hK, -⟩ := X
  exact va_get (C := R_Cle) (T := F_Cle) (N := 6) (Ts := TT) hx hb (fun _ h => hT.use h) in_Cle hown hK hP 8 rfl rfl 1 (by decide) (hT.use q1_199) (fun _ h => h) rfl hdg kk
theorem gF_cle_log (X : FX p s m meth c cc nL rt R_Cle D (tyF ca) A) (hP : va_P D cls (wF ad ca g) H) (hdg : decode cc pc = .ok (.getfield 19, 3)) (kk : W p l e R s m args below meth c H locs 0 0 Q (F0 m (pc + 3) ls (.ref (ad 5) :: rest))) : W p l e R s m args below meth c H locs 0 0 Q (F0 m pc ls (.ref (ad 8) :: rest)) := by
  obtain ⟨hx, hb, -, -, -, hown, hT, hK, -⟩ := X
  exact va_get (C := R_Cle) (T := F_Cle) (N := 6) (Ts := TT) hx hb (fun _ h => hT.use h) in_Cle hown hK hP 8 rfl rfl 2 (by decide) (hT.use q1_200) (fun _ h => h) rfl hdg kk
theorem gF_cle_victims (X : FX p s m meth c cc nL rt R_Cle D (tyF ca) A) (hP : va_P D cls (wF ad ca g) H) (hdg : decode cc pc = .ok (.getfield 23, 3)) (kk : W p l e R s m args below meth c H locs 0 0 Q (F0 m (pc + 3) ls (.ref (ad 30) :: rest))) : W p l e R s m args below meth c H locs 0 0 Q (F0 m pc ls (.ref (ad 8) :: rest)) := by
  obtain ⟨hx, hb, -, -, -, hown, hT, hK, -⟩ := X
  exact va_get (C := R_Cle) (T := F_Cle) (N := 6) (Ts := TT) hx hb (fun _ h => hT.use h) in_Cle hown hK hP 8 rfl rfl 3 (by decide) (hT.use q1_201) (fun _ h => h) rfl hdg kk
theorem gF_cle_node (X : FX p s m meth c cc nL rt R_Cle D (tyF ca) A) (hP : va_P D cls (wF ad ca g) H) (hdg : decode cc pc = .ok (.getfield 27, 3)) (kk : W p l e R s m args below meth c H locs 0 0 Q (F0 m (pc + 3) ls (.ref (ad 31) :: rest))) : W p l e R s m args below meth c H locs 0 0 Q (F0 m pc ls (.ref (ad 8) :: rest)) := by
  obtain ⟨hx, hb, -, -, -, hown, hT, hK, -⟩ := X
  exact va_get (C := R_Cle) (T := F_Cle) (N := 6) (Ts := TT) hx hb (fun _ h => hT.use h) in_Cle hown hK hP 8 rfl rfl 4 (by decide) (hT.use q1_202) (fun _ h => h) rfl hdg kk
theorem gF_cle_block (X : FX p s m meth c cc nL rt R_Cle D (tyF ca) A) (hP : va_P D cls (wF ad ca g) H) (hdg : decode cc pc = .ok (.getfield 31, 3)) (kk : W p l e R s m args below meth c H locs 0 0 Q (F0 m (pc + 3) ls (.ref (ad 32) :: rest))) : W p l e R s m args below meth c H locs 0 0 Q (F0 m pc ls (.ref (ad 8) :: rest)) := by
  obtain ⟨hx, hb, -, -, -, hown, hT, hK, -⟩ := X
  exact va_get (C := R_Cle) (T := F_Cle) (N := 6) (Ts := TT) hx hb (fun _ h => hT.use h) in_Cle hown hK hP 8 rfl rfl 5 (by decide) (hT.use q1_203) (fun _ h => h) rfl hdg kk
theorem gF_chk_device (X : FX p s m meth c cc nL rt R_Chk D (tyF ca) A) (hP : va_P D cls (wF ad ca g) H) (hdg : decode cc pc = .ok (.getfield 9, 3)) (kk : W p l e R s m args below meth c H locs 0 0 Q (F0 m (pc + 3) ls (.ref (ad 3) :: rest))) : W p l e R s m args below meth c H locs 0 0 Q (F0 m pc ls (.ref (ad 9) :: rest)) := by
  obtain ⟨hx, hb, -, -, -, hown, hT, hK, -⟩ := X
  exact va_get (C := R_Chk) (T := F_Chk) (N := 11) (Ts := TT) hx hb (fun _ h => hT.use h) in_Chk hown hK hP 9 rfl rfl 0 (by decide) (hT.use q1_221) (fun _ h => h) rfl hdg kk
theorem gF_chk_table (X : FX p s m meth c cc nL rt R_Chk D (tyF ca) A) (hP : va_P D cls (wF ad ca g) H) (hdg : decode cc pc = .ok (.getfield 15, 3)) (kk : W p l e R s m args below meth c H locs 0 0 Q (F0 m (pc + 3) ls (.ref (ad 4) :: rest))) : W p l e R s m args below meth c H locs 0 0 Q (F0 m pc ls (.ref (ad 9) :: rest)) := by
  obtain ⟨hx, hb, -, -, -, hown, hT, hK, -⟩ := X
  exact va_get (C := R_Chk) (T := F_Chk) (N := 11) (Ts := TT) hx hb (fun _ h => hT.use h) in_Chk hown hK hP 9 rfl rfl 1 (by decide) (hT.use q1_222) (fun _ h => h) rfl hdg kk
theorem gF_chk_log (X : FX p s m meth c cc nL rt R_Chk D (tyF ca) A) (hP : va_P D cls (wF ad ca g) H) (hdg : decode cc pc = .ok (.getfield 19, 3)) (kk : W p l e R s m args below meth c H locs 0 0 Q (F0 m (pc + 3) ls (.ref (ad 5) :: rest))) : W p l e R s m args below meth c H locs 0 0 Q (F0 m pc ls (.ref (ad 9) :: rest)) := by
  obtain ⟨hx, hb, -, -, -, hown, hT, hK, -⟩ := X
  exact va_get (C := R_Chk) (T := F_Chk) (N := 11) (Ts := TT) hx hb (fun _ h => hT.use h) in_Chk hown hK hP 9 rfl rfl 2 (by decide) (hT.use q1_223) (fun _ h => h) rfl hdg kk
theorem gF_chk_tree (X : FX p s m meth c cc nL rt R_Chk D (tyF ca) A) (hP : va_P D cls (wF ad ca g) H) (hdg : decode cc pc = .ok (.getfield 23, 3)) (kk : W p l e R s m args below meth c H locs 0 0 Q (F0 m (pc + 3) ls (.ref (ad 7) :: rest))) : W p l e R s m args below meth c H locs 0 0 Q (F0 m pc ls (.ref (ad 9) :: rest)) := by
  obtain ⟨hx, hb, -, -, -, hown, hT, hK, -⟩ := X
  exact va_get (C := R_Chk) (T := F_Chk) (N := 11) (Ts := TT) hx hb (fun _ h => hT.use h) in_Chk hown hK hP 9 rfl rfl 3 (by decide) (hT.use q1_224) (fun _ h => h) rfl hdg kk
theorem gF_chk_cleaner (X : FX p s m meth c cc nL rt R_Chk D (tyF ca) A) (hP : va_P D cls (wF ad ca g) H) (hdg : decode cc pc = .ok (.getfield 27, 3)) (kk : W p l e R s m args below meth c H locs 0 0 Q (F0 m (pc + 3) ls (.ref (ad 8) :: rest))) : W p l e R s m args below meth c H locs 0 0 Q (F0 m pc ls (.ref (ad 9) :: rest)) := by
  obtain ⟨hx, hb, -, -, -, hown, hT, hK, -⟩ := X
  exact va_get (C := R_Chk) (T := F_Chk) (N := 11) (Ts := TT) hx hb (fun _ h => hT.use h) in_Chk hown hK hP 9 rfl rfl 4 (by decide) (hT.use q1_225) (fun _ h => h) rfl hdg kk
theorem gF_chk_pack (X : FX p s m meth c cc nL rt R_Chk D (tyF ca) A) (hP : va_P D cls (wF ad ca g) H) (hdg : decode cc pc = .ok (.getfield 31, 3)) (kk : W p l e R s m args below meth c H locs 0 0 Q (F0 m (pc + 3) ls (.ref (ad 33) :: rest))) : W p l e R s m args below meth c H locs 0 0 Q (F0 m pc ls (.ref (ad 9) :: rest)) := by
  obtain ⟨hx, hb, -, -, -, hown, hT, hK, -⟩ := X
  exact va_get (C := R_Chk) (T := F_Chk) (N := 11) (Ts := TT) hx hb (fun _ h => hT.use h) in_Chk hown hK hP 9 rfl rfl 5 (by decide) (hT.use q1_226) (fun _ h => h) rfl hdg kk
theorem gF_chk_lastMark (X : FX p s m meth c cc nL rt R_Chk D (tyF ca) A) (hP : va_P D cls (wF ad ca g) H) (hdg : decode cc pc = .ok (.getfield 35, 3)) (kk : W p l e R s m args below meth c H locs 0 0 Q (F0 m (pc + 3) ls (.ref (ad 34) :: rest))) : W p l e R s m args below meth c H locs 0 0 Q (F0 m pc ls (.ref (ad 9) :: rest)) := by
  obtain ⟨hx, hb, -, -, -, hown, hT, hK, -⟩ := X
  exact va_get (C := R_Chk) (T := F_Chk) (N := 11) (Ts := TT) hx hb (fun _ h => hT.use h) in_Chk hown hK hP 9 rfl rfl 6 (by decide) (hT.use q1_227) (fun _ h => h) rfl hdg kk
theorem gF_chk_room (X : FX p s m meth c cc nL rt R_Chk D (tyF ca) A) (hP : va_P D cls (wF ad ca g) H) (hdg : decode cc pc = .ok (.getfield 48, 3)) (kk : W p l e R s m args below meth c H locs 0 0 Q (F0 m (pc + 3) ls (.int (g.1 16) :: rest))) : W p l e R s m args below meth c H locs 0 0 Q (F0 m pc ls (.ref (ad 9) :: rest)) := by
  obtain ⟨hx, hb, -, -, -, hown, hT, hK, -⟩ := X
  exact va_get (C := R_Chk) (T := F_Chk) (N := 11) (Ts := TT) hx hb (fun _ h => hT.use h) in_Chk hown hK hP 9 rfl rfl 7 (by decide) (hT.use q1_228) (fun _ h => h) rfl hdg kk
theorem uF_chk_room (X : FX p s m meth c cc nL rt R_Chk D (tyF ca) A) (hP : va_P D cls (wF ad ca g) H) (hD : va_D A (wF ad ca g)) (hS : va_S A s.heap H locs) {v : Int32} (e1 : setI g 16 v = g1) (hdg : decode cc pc = .ok (.putfield 48, 3)) (kk : ∀ (H1 : Heap) (locs1 : List Loc), va_P D cls (wF ad ca g1) H1 → va_D A (wF ad ca g1) → va_S A s.heap H1 locs1 → W p l e R s m args below meth c H1 locs1 0 0 Q (F0 m (pc + 3) ls rest)) : W p l e R s m args below meth c H locs 0 0 Q (F0 m pc ls (.int v :: .ref (ad 9) :: rest)) := by
  obtain ⟨hx, hb, -, -, -, hown, hT, hK, -⟩ := X
  subst e1
  exact va_put (ty := .int) (C := R_Chk) (T := F_Chk) (N := 11) (Ts := TT) hx hb (fun _ h => hT.use h) in_Chk ft_Chk ft_Chk_ok n_Chk hown hK hP hD hS 9 rfl rfl 7 (by decide) (hT.use q1_228) (fun _ h => h) rfl (by decide +kernel) rfl rfl (Nat.le_of_ble_eq_true rfl) hdg (fun H1 locs1 h1 h2 h3 => kk H1 locs1 h1 h2 h3)
theorem gF_chk_used (X : FX p s m meth c cc nL rt R_Chk D (tyF ca) A) (hP : va_P D cls (wF ad ca g) H) (hdg : decode cc pc = .ok (.getfield 38, 3)) (kk : W p l e R s m args below meth c H locs 0 0 Q (F0 m (pc + 3) ls (.int (g.1 17) :: rest))) : W p l e R s m args below meth c H locs 0 0 Q (F0 m pc ls (.ref (ad 9) :: rest)) := by
  obtain ⟨hx, hb, -, -, -, hown, hT, hK, -⟩ := X
  exact va_get (C := R_Chk) (T := F_Chk) (N := 11) (Ts := TT) hx hb (fun _ h => hT.use h) in_Chk hown hK hP 9 rfl rfl 8 (by decide) (hT.use q1_229) (fun _ h => h) rfl hdg kk
theorem uF_chk_used (X : FX p s m meth c cc nL rt R_Chk D (tyF ca) A) (hP : va_P D cls (wF ad ca g) H) (hD : va_D A (wF ad ca g)) (hS : va_S A s.heap H locs) {v : Int32} (e1 : setI g 17 v = g1) (hdg : decode cc pc = .ok (.putfield 38, 3)) (kk : ∀ (H1 : Heap) (locs1 : List Loc), va_P D cls (wF ad ca g1) H1 → va_D A (wF ad ca g1) → va_S A s.heap H1 locs1 → W p l e R s m args below meth c H1 locs1 0 0 Q (F0 m (pc + 3) ls rest)) : W p l e R s m args below meth c H locs 0 0 Q (F0 m pc ls (.int v :: .ref (ad 9) :: rest)) := by
  obtain ⟨hx, hb, -, -, -, hown, hT, hK, -⟩ := X
  subst e1
  exact va_put (ty := .int) (C := R_Chk) (T := F_Chk) (N := 11) (Ts := TT) hx hb (fun _ h => hT.use h) in_Chk ft_Chk ft_Chk_ok n_Chk hown hK hP hD hS 9 rfl rfl 8 (by decide) (hT.use q1_229) (fun _ h => h) rfl (by decide +kernel) rfl rfl (Nat.le_of_ble_eq_true rfl) hdg (fun H1 locs1 h1 h2 h3 => kk H1 locs1 h1 h2 h3)
theorem gF_chk_fresh (X : FX p s m meth c cc nL rt R_Chk D (tyF ca) A) (hP : va_P D cls (wF ad ca g) H) (hdg : decode cc pc = .ok (.getfield 42, 3)) (kk : W p l e R s m args below meth c H locs 0 0 Q (F0 m (pc + 3) ls (.int (g.1 18) :: rest))) : W p l e R s m args below meth c H locs 0 0 Q (F0 m pc ls (.ref (ad 9) :: rest)) := by
  obtain ⟨hx, hb, -, -, -, hown, hT, hK, -⟩ := X
  exact va_get (C := R_Chk) (T := F_Chk) (N := 11) (Ts := TT) hx hb (fun _ h => hT.use h) in_Chk hown hK hP 9 rfl rfl 9 (by decide) (hT.use q1_230) (fun _ h => h) rfl hdg kk
theorem uF_chk_fresh (X : FX p s m meth c cc nL rt R_Chk D (tyF ca) A) (hP : va_P D cls (wF ad ca g) H) (hD : va_D A (wF ad ca g)) (hS : va_S A s.heap H locs) {v : Int32} (e1 : setI g 18 v = g1) (hdg : decode cc pc = .ok (.putfield 42, 3)) (kk : ∀ (H1 : Heap) (locs1 : List Loc), va_P D cls (wF ad ca g1) H1 → va_D A (wF ad ca g1) → va_S A s.heap H1 locs1 → W p l e R s m args below meth c H1 locs1 0 0 Q (F0 m (pc + 3) ls rest)) : W p l e R s m args below meth c H locs 0 0 Q (F0 m pc ls (.int v :: .ref (ad 9) :: rest)) := by
  obtain ⟨hx, hb, -, -, -, hown, hT, hK, -⟩ := X
  subst e1
  exact va_put (ty := .int) (C := R_Chk) (T := F_Chk) (N := 11) (Ts := TT) hx hb (fun _ h => hT.use h) in_Chk ft_Chk ft_Chk_ok n_Chk hown hK hP hD hS 9 rfl rfl 9 (by decide) (hT.use q1_230) (fun _ h => h) rfl (by decide +kernel) rfl rfl (Nat.le_of_ble_eq_true rfl) hdg (fun H1 locs1 h1 h2 h3 => kk H1 locs1 h1 h2 h3)
theorem gF_chk_taken (X : FX p s m meth c cc nL rt R_Chk D (tyF ca) A) (hP : va_P D cls (wF ad ca g) H) (hdg : decode cc pc = .ok (.getfield 45, 3)) (kk : W p l e R s m args below meth c H locs 0 0 Q (F0 m (pc + 3) ls (.int (g.1 19) :: rest))) : W p l e R s m args below meth c H locs 0 0 Q (F0 m pc ls (.ref (ad 9) :: rest)) := by
  obtain ⟨hx, hb, -, -, -, hown, hT, hK, -⟩ := X
  exact va_get (C := R_Chk) (T := F_Chk) (N := 11) (Ts := TT) hx hb (fun _ h => hT.use h) in_Chk hown hK hP 9 rfl rfl 10 (by decide) (hT.use q1_231) (fun _ h => h) rfl hdg kk
theorem uF_chk_taken (X : FX p s m meth c cc nL rt R_Chk D (tyF ca) A) (hP : va_P D cls (wF ad ca g) H) (hD : va_D A (wF ad ca g)) (hS : va_S A s.heap H locs) {v : Int32} (e1 : setI g 19 v = g1) (hdg : decode cc pc = .ok (.putfield 45, 3)) (kk : ∀ (H1 : Heap) (locs1 : List Loc), va_P D cls (wF ad ca g1) H1 → va_D A (wF ad ca g1) → va_S A s.heap H1 locs1 → W p l e R s m args below meth c H1 locs1 0 0 Q (F0 m (pc + 3) ls rest)) : W p l e R s m args below meth c H locs 0 0 Q (F0 m pc ls (.int v :: .ref (ad 9) :: rest)) := by
  obtain ⟨hx, hb, -, -, -, hown, hT, hK, -⟩ := X
  subst e1
  exact va_put (ty := .int) (C := R_Chk) (T := F_Chk) (N := 11) (Ts := TT) hx hb (fun _ h => hT.use h) in_Chk ft_Chk ft_Chk_ok n_Chk hown hK hP hD hS 9 rfl rfl 10 (by decide) (hT.use q1_231) (fun _ h => h) rfl (by decide +kernel) rfl rfl (Nat.le_of_ble_eq_true rfl) hdg (fun H1 locs1 h1 h2 h3 => kk H1 locs1 h1 h2 h3)
theorem gF_ins_device (X : FX p s m meth c cc nL rt R_Ins D (tyF ca) A) (hP : va_P D cls (wF ad ca g) H) (hdg : decode cc pc = .ok (.getfield 9, 3)) (kk : W p l e R s m args below meth c H locs 0 0 Q (F0 m (pc + 3) ls (.ref (ad 3) :: rest))) : W p l e R s m args below meth c H locs 0 0 Q (F0 m pc ls (.ref (ad 10) :: rest)) := by
  obtain ⟨hx, hb, -, -, -, hown, hT, hK, -⟩ := X
  exact va_get (C := R_Ins) (T := F_Ins) (N := 8) (Ts := TT) hx hb (fun _ h => hT.use h) in_Ins hown hK hP 10 rfl rfl 0 (by decide) (hT.use q2_21) (fun _ h => h) rfl hdg kk
theorem gF_ins_table (X : FX p s m meth c cc nL rt R_Ins D (tyF ca) A) (hP : va_P D cls (wF ad ca g) H) (hdg : decode cc pc = .ok (.getfield 15, 3)) (kk : W p l e R s m args below meth c H locs 0 0 Q (F0 m (pc + 3) ls (.ref (ad 4) :: rest))) : W p l e R s m args below meth c H locs 0 0 Q (F0 m pc ls (.ref (ad 10) :: rest)) := by
  obtain ⟨hx, hb, -, -, -, hown, hT, hK, -⟩ := X
  exact va_get (C := R_Ins) (T := F_Ins) (N := 8) (Ts := TT) hx hb (fun _ h => hT.use h) in_Ins hown hK hP 10 rfl rfl 1 (by decide) (hT.use q2_22) (fun _ h => h) rfl hdg kk
theorem gF_ins_log (X : FX p s m meth c cc nL rt R_Ins D (tyF ca) A) (hP : va_P D cls (wF ad ca g) H) (hdg : decode cc pc = .ok (.getfield 19, 3)) (kk : W p l e R s m args below meth c H locs 0 0 Q (F0 m (pc + 3) ls (.ref (ad 5) :: rest))) : W p l e R s m args below meth c H locs 0 0 Q (F0 m pc ls (.ref (ad 10) :: rest)) := by
  obtain ⟨hx, hb, -, -, -, hown, hT, hK, -⟩ := X
  exact va_get (C := R_Ins) (T := F_Ins) (N := 8) (Ts := TT) hx hb (fun _ h => hT.use h) in_Ins hown hK hP 10 rfl rfl 2 (by decide) (hT.use q2_23) (fun _ h => h) rfl hdg kk
theorem gF_ins_checkpoints (X : FX p s m meth c cc nL rt R_Ins D (tyF ca) A) (hP : va_P D cls (wF ad ca g) H) (hdg : decode cc pc = .ok (.getfield 23, 3)) (kk : W p l e R s m args below meth c H locs 0 0 Q (F0 m (pc + 3) ls (.ref (ad 9) :: rest))) : W p l e R s m args below meth c H locs 0 0 Q (F0 m pc ls (.ref (ad 10) :: rest)) := by
  obtain ⟨hx, hb, -, -, -, hown, hT, hK, -⟩ := X
  exact va_get (C := R_Ins) (T := F_Ins) (N := 8) (Ts := TT) hx hb (fun _ h => hT.use h) in_Ins hown hK hP 10 rfl rfl 3 (by decide) (hT.use q2_24) (fun _ h => h) rfl hdg kk
theorem gF_ins_owned (X : FX p s m meth c cc nL rt R_Ins D (tyF ca) A) (hP : va_P D cls (wF ad ca g) H) (hdg : decode cc pc = .ok (.getfield 27, 3)) (kk : W p l e R s m args below meth c H locs 0 0 Q (F0 m (pc + 3) ls (.ref (ad 35) :: rest))) : W p l e R s m args below meth c H locs 0 0 Q (F0 m pc ls (.ref (ad 10) :: rest)) := by
  obtain ⟨hx, hb, -, -, -, hown, hT, hK, -⟩ := X
  exact va_get (C := R_Ins) (T := F_Ins) (N := 8) (Ts := TT) hx hb (fun _ h => hT.use h) in_Ins hown hK hP 10 rfl rfl 4 (by decide) (hT.use q2_25) (fun _ h => h) rfl hdg kk
theorem gF_ins_led (X : FX p s m meth c cc nL rt R_Ins D (tyF ca) A) (hP : va_P D cls (wF ad ca g) H) (hdg : decode cc pc = .ok (.getfield 31, 3)) (kk : W p l e R s m args below meth c H locs 0 0 Q (F0 m (pc + 3) ls (.ref (ad 36) :: rest))) : W p l e R s m args below meth c H locs 0 0 Q (F0 m pc ls (.ref (ad 10) :: rest)) := by
  obtain ⟨hx, hb, -, -, -, hown, hT, hK, -⟩ := X
  exact va_get (C := R_Ins) (T := F_Ins) (N := 8) (Ts := TT) hx hb (fun _ h => hT.use h) in_Ins hown hK hP 10 rfl rfl 5 (by decide) (hT.use q2_26) (fun _ h => h) rfl hdg kk
theorem gF_ins_entry (X : FX p s m meth c cc nL rt R_Ins D (tyF ca) A) (hP : va_P D cls (wF ad ca g) H) (hdg : decode cc pc = .ok (.getfield 34, 3)) (kk : W p l e R s m args below meth c H locs 0 0 Q (F0 m (pc + 3) ls (.ref (ad 37) :: rest))) : W p l e R s m args below meth c H locs 0 0 Q (F0 m pc ls (.ref (ad 10) :: rest)) := by
  obtain ⟨hx, hb, -, -, -, hown, hT, hK, -⟩ := X
  exact va_get (C := R_Ins) (T := F_Ins) (N := 8) (Ts := TT) hx hb (fun _ h => hT.use h) in_Ins hown hK hP 10 rfl rfl 6 (by decide) (hT.use q2_27) (fun _ h => h) rfl hdg kk
theorem gF_ins_found (X : FX p s m meth c cc nL rt R_Ins D (tyF ca) A) (hP : va_P D cls (wF ad ca g) H) (hdg : decode cc pc = .ok (.getfield 49, 3)) (kk : W p l e R s m args below meth c H locs 0 0 Q (F0 m (pc + 3) ls (.int (g.1 20) :: rest))) : W p l e R s m args below meth c H locs 0 0 Q (F0 m pc ls (.ref (ad 10) :: rest)) := by
  obtain ⟨hx, hb, -, -, -, hown, hT, hK, -⟩ := X
  exact va_get (C := R_Ins) (T := F_Ins) (N := 8) (Ts := TT) hx hb (fun _ h => hT.use h) in_Ins hown hK hP 10 rfl rfl 7 (by decide) (hT.use q2_28) (fun _ h => h) rfl hdg kk
theorem uF_ins_found (X : FX p s m meth c cc nL rt R_Ins D (tyF ca) A) (hP : va_P D cls (wF ad ca g) H) (hD : va_D A (wF ad ca g)) (hS : va_S A s.heap H locs) {v : Int32} (e1 : setI g 20 v = g1) (hdg : decode cc pc = .ok (.putfield 49, 3)) (kk : ∀ (H1 : Heap) (locs1 : List Loc), va_P D cls (wF ad ca g1) H1 → va_D A (wF ad ca g1) → va_S A s.heap H1 locs1 → W p l e R s m args below meth c H1 locs1 0 0 Q (F0 m (pc + 3) ls rest)) : W p l e R s m args below meth c H locs 0 0 Q (F0 m pc ls (.int v :: .ref (ad 10) :: rest)) := by
  obtain ⟨hx, hb, -, -, -, hown, hT, hK, -⟩ := X
  subst e1
  exact va_put (ty := .int) (C := R_Ins) (T := F_Ins) (N := 8) (Ts := TT) hx hb (fun _ h => hT.use h) in_Ins ft_Ins ft_Ins_ok n_Ins hown hK hP hD hS 10 rfl rfl 7 (by decide) (hT.use q2_28) (fun _ h => h) rfl (by decide +kernel) rfl rfl (Nat.le_of_ble_eq_true rfl) hdg (fun H1 locs1 h1 h2 h3 => kk H1 locs1 h1 h2 h3)
theorem rF_0 (X : FX p s m meth c cc nL rt own D (tyF ca) A) (hP : va_P D cls (wF ad ca g) H) {i v : Int32} (e1 : rdA 2060 g 0 i = some v) (hdg : decode cc pc = .ok (.iaload, 1)) (kk : W p l e R s m args below meth c H locs 0 0 Q (F0 m (pc + 1) ls (.int v :: rest))) : W p l e R s m args below meth c H locs 0 0 Q (F0 m pc ls (.int i :: .ref (ad 11) :: rest)) := by
  obtain ⟨hx, hb, -, -, -, hown, hT, hK, -⟩ := X
  obtain ⟨hin, rfl⟩ := rdA_some e1
  exact va_iald hx hb hK hP 11 0 rfl rfl hin hdg kk
theorem sF_0 (X : FX p s m meth c cc nL rt own D (tyF ca) A) (hP : va_P D cls (wF ad ca g) H) (hD : va_D A (wF ad ca g)) (hS : va_S A s.heap H locs) {i x : Int32} (e1 : wrA 2060 g 0 i (x) = some g1) (hdg : decode cc pc = .ok (.iastore, 1)) (kk : ∀ (H1 : Heap) (locs1 : List Loc), va_P D cls (wF ad ca g1) H1 → va_D A (wF ad ca g1) → va_S A s.heap H1 locs1 → W p l e R s m args below meth c H1 locs1 0 0 Q (F0 m (pc + 1) ls rest)) : W p l e R s m args below meth c H locs 0 0 Q (F0 m pc ls (.int x :: .int i :: .ref (ad 11) :: rest)) := by
  obtain ⟨hx, hb, -, -, -, hown, hT, hK, -⟩ := X
  obtain ⟨hin, rfl⟩ := wrA_some e1
  exact va_iast hx hb hK hP hD hS 11 0 rfl rfl hin hdg (fun H1 locs1 h1 h2 h3 => kk H1 locs1 h1 h2 h3)
theorem rF_1 (X : FX p s m meth c cc nL rt own D (tyF ca) A) (hP : va_P D cls (wF ad ca g) H) {i v : Int32} (e1 : rdA 2000 g 1 i = some v) (hdg : decode cc pc = .ok (.iaload, 1)) (kk : W p l e R s m args below meth c H locs 0 0 Q (F0 m (pc + 1) ls (.int v :: rest))) : W p l e R s m args below meth c H locs 0 0 Q (F0 m pc ls (.int i :: .ref (ad 12) :: rest)) := by
  obtain ⟨hx, hb, -, -, -, hown, hT, hK, -⟩ := X
  obtain ⟨hin, rfl⟩ := rdA_some e1
  exact va_iald hx hb hK hP 12 1 rfl rfl hin hdg kk
theorem sF_1 (X : FX p s m meth c cc nL rt own D (tyF ca) A) (hP : va_P D cls (wF ad ca g) H) (hD : va_D A (wF ad ca g)) (hS : va_S A s.heap H locs) {i x : Int32} (e1 : wrA 2000 g 1 i (x) = some g1) (hdg : decode cc pc = .ok (.iastore, 1)) (kk : ∀ (H1 : Heap) (locs1 : List Loc), va_P D cls (wF ad ca g1) H1 → va_D A (wF ad ca g1) → va_S A s.heap H1 locs1 → W p l e R s m args below meth c H1 locs1 0 0 Q (F0 m (pc + 1) ls rest)) : W p l e R s m args below meth c H locs 0 0 Q (F0 m pc ls (.int x :: .int i :: .ref (ad 12) :: rest)) := by
  obtain ⟨hx, hb, -, -, -, hown, hT, hK, -⟩ := X
  obtain ⟨hin, rfl⟩ := wrA_some e1
  exact va_iast hx hb hK hP hD hS 12 1 rfl rfl hin hdg (fun H1 locs1 h1 h2 h3 => kk H1 locs1 h1 h2 h3)
theorem rF_2 (X : FX p s m meth c cc nL rt own D (tyF ca) A) (hP : va_P D cls (wF ad ca g) H) {i v : Int32} (e1 : rdA 6 g 2 i = some v) (hdg : decode cc pc = .ok (.iaload, 1)) (kk : W p l e R s m args below meth c H locs 0 0 Q (F0 m (pc + 1) ls (.int v :: rest))) : W p l e R s m args below meth c H locs 0 0 Q (F0 m pc ls (.int i :: .ref (ad 13) :: rest)) := by
  obtain ⟨hx, hb, -, -, -, hown, hT, hK, -⟩ := X
  obtain ⟨hin, rfl⟩ := rdA_some e1
  exact va_iald hx hb hK hP 13 2 rfl rfl hin hdg kk
theorem sF_2 (X : FX p s m meth c cc nL rt own D (tyF ca) A) (hP : va_P D cls (wF ad ca g) H) (hD : va_D A (wF ad ca g)) (hS : va_S A s.heap H locs) {i x : Int32} (e1 : wrA 6 g 2 i (x) = some g1) (hdg : decode cc pc = .ok (.iastore, 1)) (kk : ∀ (H1 : Heap) (locs1 : List Loc), va_P D cls (wF ad ca g1) H1 → va_D A (wF ad ca g1) → va_S A s.heap H1 locs1 → W p l e R s m args below meth c H1 locs1 0 0 Q (F0 m (pc + 1) ls rest)) : W p l e R s m args below meth c H locs 0 0 Q (F0 m pc ls (.int x :: .int i :: .ref (ad 13) :: rest)) := by
  obtain ⟨hx, hb, -, -, -, hown, hT, hK, -⟩ := X
  obtain ⟨hin, rfl⟩ := wrA_some e1
  exact va_iast hx hb hK hP hD hS 13 2 rfl rfl hin hdg (fun H1 locs1 h1 h2 h3 => kk H1 locs1 h1 h2 h3)
theorem rF_3 (X : FX p s m meth c cc nL rt own D (tyF ca) A) (hP : va_P D cls (wF ad ca g) H) {i v : Int32} (e1 : rdA 6 g 3 i = some v) (hdg : decode cc pc = .ok (.iaload, 1)) (kk : W p l e R s m args below meth c H locs 0 0 Q (F0 m (pc + 1) ls (.int v :: rest))) : W p l e R s m args below meth c H locs 0 0 Q (F0 m pc ls (.int i :: .ref (ad 14) :: rest)) := by
  obtain ⟨hx, hb, -, -, -, hown, hT, hK, -⟩ := X
  obtain ⟨hin, rfl⟩ := rdA_some e1
  exact va_iald hx hb hK hP 14 3 rfl rfl hin hdg kk
theorem sF_3 (X : FX p s m meth c cc nL rt own D (tyF ca) A) (hP : va_P D cls (wF ad ca g) H) (hD : va_D A (wF ad ca g)) (hS : va_S A s.heap H locs) {i x : Int32} (e1 : wrA 6 g 3 i (x) = some g1) (hdg : decode cc pc = .ok (.iastore, 1)) (kk : ∀ (H1 : Heap) (locs1 : List Loc), va_P D cls (wF ad ca g1) H1 → va_D A (wF ad ca g1) → va_S A s.heap H1 locs1 → W p l e R s m args below meth c H1 locs1 0 0 Q (F0 m (pc + 1) ls rest)) : W p l e R s m args below meth c H locs 0 0 Q (F0 m pc ls (.int x :: .int i :: .ref (ad 14) :: rest)) := by
  obtain ⟨hx, hb, -, -, -, hown, hT, hK, -⟩ := X
  obtain ⟨hin, rfl⟩ := wrA_some e1
  exact va_iast hx hb hK hP hD hS 14 3 rfl rfl hin hdg (fun H1 locs1 h1 h2 h3 => kk H1 locs1 h1 h2 h3)
theorem rF_4 (X : FX p s m meth c cc nL rt own D (tyF ca) A) (hP : va_P D cls (wF ad ca g) H) {i v : Int32} (e1 : rdA 135488 g 4 i = some v) (hdg : decode cc pc = .ok (.iaload, 1)) (kk : W p l e R s m args below meth c H locs 0 0 Q (F0 m (pc + 1) ls (.int v :: rest))) : W p l e R s m args below meth c H locs 0 0 Q (F0 m pc ls (.int i :: .ref (ad 15) :: rest)) := by
  obtain ⟨hx, hb, -, -, -, hown, hT, hK, -⟩ := X
  obtain ⟨hin, rfl⟩ := rdA_some e1
  exact va_iald hx hb hK hP 15 4 rfl rfl hin hdg kk
theorem sF_4 (X : FX p s m meth c cc nL rt own D (tyF ca) A) (hP : va_P D cls (wF ad ca g) H) (hD : va_D A (wF ad ca g)) (hS : va_S A s.heap H locs) {i x : Int32} (e1 : wrA 135488 g 4 i (x) = some g1) (hdg : decode cc pc = .ok (.iastore, 1)) (kk : ∀ (H1 : Heap) (locs1 : List Loc), va_P D cls (wF ad ca g1) H1 → va_D A (wF ad ca g1) → va_S A s.heap H1 locs1 → W p l e R s m args below meth c H1 locs1 0 0 Q (F0 m (pc + 1) ls rest)) : W p l e R s m args below meth c H locs 0 0 Q (F0 m pc ls (.int x :: .int i :: .ref (ad 15) :: rest)) := by
  obtain ⟨hx, hb, -, -, -, hown, hT, hK, -⟩ := X
  obtain ⟨hin, rfl⟩ := wrA_some e1
  exact va_iast hx hb hK hP hD hS 15 4 rfl rfl hin hdg (fun H1 locs1 h1 h2 h3 => kk H1 locs1 h1 h2 h3)
theorem rF_5 (X : FX p s m meth c cc nL rt own D (tyF ca) A) (hP : va_P D cls (wF ad ca g) H) {i v : Int32} (e1 : rdA 2117 g 5 i = some v) (hdg : decode cc pc = .ok (.baload, 1)) (kk : W p l e R s m args below meth c H locs 0 0 Q (F0 m (pc + 1) ls (.int v :: rest))) : W p l e R s m args below meth c H locs 0 0 Q (F0 m pc ls (.int i :: .ref (ad 16) :: rest)) := by
  obtain ⟨hx, hb, -, -, -, hown, hT, hK, -⟩ := X
  obtain ⟨hin, rfl⟩ := rdA_some e1
  exact va_zald hx hb hK hP 16 5 rfl rfl hin hdg kk
theorem sF_5 (X : FX p s m meth c cc nL rt own D (tyF ca) A) (hP : va_P D cls (wF ad ca g) H) (hD : va_D A (wF ad ca g)) (hS : va_S A s.heap H locs) {i x : Int32} (e1 : wrA 2117 g 5 i (nz x) = some g1) (hdg : decode cc pc = .ok (.bastore, 1)) (kk : ∀ (H1 : Heap) (locs1 : List Loc), va_P D cls (wF ad ca g1) H1 → va_D A (wF ad ca g1) → va_S A s.heap H1 locs1 → W p l e R s m args below meth c H1 locs1 0 0 Q (F0 m (pc + 1) ls rest)) : W p l e R s m args below meth c H locs 0 0 Q (F0 m pc ls (.int x :: .int i :: .ref (ad 16) :: rest)) := by
  obtain ⟨hx, hb, -, -, -, hown, hT, hK, -⟩ := X
  obtain ⟨hin, rfl⟩ := wrA_some e1
  exact va_zast hx hb hK hP hD hS 16 5 rfl rfl hin hdg (fun H1 locs1 h1 h2 h3 => kk H1 locs1 h1 h2 h3)
theorem rF_6 (X : FX p s m meth c cc nL rt own D (tyF ca) A) (hP : va_P D cls (wF ad ca g) H) {i v : Int32} (e1 : rdA 2048 g 6 i = some v) (hdg : decode cc pc = .ok (.iaload, 1)) (kk : W p l e R s m args below meth c H locs 0 0 Q (F0 m (pc + 1) ls (.int v :: rest))) : W p l e R s m args below meth c H locs 0 0 Q (F0 m pc ls (.int i :: .ref (ad 17) :: rest)) := by
  obtain ⟨hx, hb, -, -, -, hown, hT, hK, -⟩ := X
  obtain ⟨hin, rfl⟩ := rdA_some e1
  exact va_iald hx hb hK hP 17 6 rfl rfl hin hdg kk
theorem sF_6 (X : FX p s m meth c cc nL rt own D (tyF ca) A) (hP : va_P D cls (wF ad ca g) H) (hD : va_D A (wF ad ca g)) (hS : va_S A s.heap H locs) {i x : Int32} (e1 : wrA 2048 g 6 i (x) = some g1) (hdg : decode cc pc = .ok (.iastore, 1)) (kk : ∀ (H1 : Heap) (locs1 : List Loc), va_P D cls (wF ad ca g1) H1 → va_D A (wF ad ca g1) → va_S A s.heap H1 locs1 → W p l e R s m args below meth c H1 locs1 0 0 Q (F0 m (pc + 1) ls rest)) : W p l e R s m args below meth c H locs 0 0 Q (F0 m pc ls (.int x :: .int i :: .ref (ad 17) :: rest)) := by
  obtain ⟨hx, hb, -, -, -, hown, hT, hK, -⟩ := X
  obtain ⟨hin, rfl⟩ := wrA_some e1
  exact va_iast hx hb hK hP hD hS 17 6 rfl rfl hin hdg (fun H1 locs1 h1 h2 h3 => kk H1 locs1 h1 h2 h3)
theorem rF_7 (X : FX p s m meth c cc nL rt own D (tyF ca) A) (hP : va_P D cls (wF ad ca g) H) {i v : Int32} (e1 : rdA 2048 g 7 i = some v) (hdg : decode cc pc = .ok (.iaload, 1)) (kk : W p l e R s m args below meth c H locs 0 0 Q (F0 m (pc + 1) ls (.int v :: rest))) : W p l e R s m args below meth c H locs 0 0 Q (F0 m pc ls (.int i :: .ref (ad 18) :: rest)) := by
  obtain ⟨hx, hb, -, -, -, hown, hT, hK, -⟩ := X
  obtain ⟨hin, rfl⟩ := rdA_some e1
  exact va_iald hx hb hK hP 18 7 rfl rfl hin hdg kk
theorem sF_7 (X : FX p s m meth c cc nL rt own D (tyF ca) A) (hP : va_P D cls (wF ad ca g) H) (hD : va_D A (wF ad ca g)) (hS : va_S A s.heap H locs) {i x : Int32} (e1 : wrA 2048 g 7 i (x) = some g1) (hdg : decode cc pc = .ok (.iastore, 1)) (kk : ∀ (H1 : Heap) (locs1 : List Loc), va_P D cls (wF ad ca g1) H1 → va_D A (wF ad ca g1) → va_S A s.heap H1 locs1 → W p l e R s m args below meth c H1 locs1 0 0 Q (F0 m (pc + 1) ls rest)) : W p l e R s m args below meth c H locs 0 0 Q (F0 m pc ls (.int x :: .int i :: .ref (ad 18) :: rest)) := by
  obtain ⟨hx, hb, -, -, -, hown, hT, hK, -⟩ := X
  obtain ⟨hin, rfl⟩ := wrA_some e1
  exact va_iast hx hb hK hP hD hS 18 7 rfl rfl hin hdg (fun H1 locs1 h1 h2 h3 => kk H1 locs1 h1 h2 h3)
theorem rF_8 (X : FX p s m meth c cc nL rt own D (tyF ca) A) (hP : va_P D cls (wF ad ca g) H) {i v : Int32} (e1 : rdA 251 g 8 i = some v) (hdg : decode cc pc = .ok (.baload, 1)) (kk : W p l e R s m args below meth c H locs 0 0 Q (F0 m (pc + 1) ls (.int v :: rest))) : W p l e R s m args below meth c H locs 0 0 Q (F0 m pc ls (.int i :: .ref (ad 19) :: rest)) := by
  obtain ⟨hx, hb, -, -, -, hown, hT, hK, -⟩ := X
  obtain ⟨hin, rfl⟩ := rdA_some e1
  exact va_zald hx hb hK hP 19 8 rfl rfl hin hdg kk
theorem sF_8 (X : FX p s m meth c cc nL rt own D (tyF ca) A) (hP : va_P D cls (wF ad ca g) H) (hD : va_D A (wF ad ca g)) (hS : va_S A s.heap H locs) {i x : Int32} (e1 : wrA 251 g 8 i (nz x) = some g1) (hdg : decode cc pc = .ok (.bastore, 1)) (kk : ∀ (H1 : Heap) (locs1 : List Loc), va_P D cls (wF ad ca g1) H1 → va_D A (wF ad ca g1) → va_S A s.heap H1 locs1 → W p l e R s m args below meth c H1 locs1 0 0 Q (F0 m (pc + 1) ls rest)) : W p l e R s m args below meth c H locs 0 0 Q (F0 m pc ls (.int x :: .int i :: .ref (ad 19) :: rest)) := by
  obtain ⟨hx, hb, -, -, -, hown, hT, hK, -⟩ := X
  obtain ⟨hin, rfl⟩ := wrA_some e1
  exact va_zast hx hb hK hP hD hS 19 8 rfl rfl hin hdg (fun H1 locs1 h1 h2 h3 => kk H1 locs1 h1 h2 h3)
theorem rF_9 (X : FX p s m meth c cc nL rt own D (tyF ca) A) (hP : va_P D cls (wF ad ca g) H) {i v : Int32} (e1 : rdA 2117 g 9 i = some v) (hdg : decode cc pc = .ok (.iaload, 1)) (kk : W p l e R s m args below meth c H locs 0 0 Q (F0 m (pc + 1) ls (.int v :: rest))) : W p l e R s m args below meth c H locs 0 0 Q (F0 m pc ls (.int i :: .ref (ad 20) :: rest)) := by
  obtain ⟨hx, hb, -, -, -, hown, hT, hK, -⟩ := X
  obtain ⟨hin, rfl⟩ := rdA_some e1
  exact va_iald hx hb hK hP 20 9 rfl rfl hin hdg kk
theorem sF_9 (X : FX p s m meth c cc nL rt own D (tyF ca) A) (hP : va_P D cls (wF ad ca g) H) (hD : va_D A (wF ad ca g)) (hS : va_S A s.heap H locs) {i x : Int32} (e1 : wrA 2117 g 9 i (x) = some g1) (hdg : decode cc pc = .ok (.iastore, 1)) (kk : ∀ (H1 : Heap) (locs1 : List Loc), va_P D cls (wF ad ca g1) H1 → va_D A (wF ad ca g1) → va_S A s.heap H1 locs1 → W p l e R s m args below meth c H1 locs1 0 0 Q (F0 m (pc + 1) ls rest)) : W p l e R s m args below meth c H locs 0 0 Q (F0 m pc ls (.int x :: .int i :: .ref (ad 20) :: rest)) := by
  obtain ⟨hx, hb, -, -, -, hown, hT, hK, -⟩ := X
  obtain ⟨hin, rfl⟩ := wrA_some e1
  exact va_iast hx hb hK hP hD hS 20 9 rfl rfl hin hdg (fun H1 locs1 h1 h2 h3 => kk H1 locs1 h1 h2 h3)
theorem rF_10 (X : FX p s m meth c cc nL rt own D (tyF ca) A) (hP : va_P D cls (wF ad ca g) H) {i v : Int32} (e1 : rdA 128 g 10 i = some v) (hdg : decode cc pc = .ok (.iaload, 1)) (kk : W p l e R s m args below meth c H locs 0 0 Q (F0 m (pc + 1) ls (.int v :: rest))) : W p l e R s m args below meth c H locs 0 0 Q (F0 m pc ls (.int i :: .ref (ad 21) :: rest)) := by
  obtain ⟨hx, hb, -, -, -, hown, hT, hK, -⟩ := X
  obtain ⟨hin, rfl⟩ := rdA_some e1
  exact va_iald hx hb hK hP 21 10 rfl rfl hin hdg kk
theorem sF_10 (X : FX p s m meth c cc nL rt own D (tyF ca) A) (hP : va_P D cls (wF ad ca g) H) (hD : va_D A (wF ad ca g)) (hS : va_S A s.heap H locs) {i x : Int32} (e1 : wrA 128 g 10 i (x) = some g1) (hdg : decode cc pc = .ok (.iastore, 1)) (kk : ∀ (H1 : Heap) (locs1 : List Loc), va_P D cls (wF ad ca g1) H1 → va_D A (wF ad ca g1) → va_S A s.heap H1 locs1 → W p l e R s m args below meth c H1 locs1 0 0 Q (F0 m (pc + 1) ls rest)) : W p l e R s m args below meth c H locs 0 0 Q (F0 m pc ls (.int x :: .int i :: .ref (ad 21) :: rest)) := by
  obtain ⟨hx, hb, -, -, -, hown, hT, hK, -⟩ := X
  obtain ⟨hin, rfl⟩ := wrA_some e1
  exact va_iast hx hb hK hP hD hS 21 10 rfl rfl hin hdg (fun H1 locs1 h1 h2 h3 => kk H1 locs1 h1 h2 h3)
theorem rF_11 (X : FX p s m meth c cc nL rt own D (tyF ca) A) (hP : va_P D cls (wF ad ca g) H) {i v : Int32} (e1 : rdA 128 g 11 i = some v) (hdg : decode cc pc = .ok (.iaload, 1)) (kk : W p l e R s m args below meth c H locs 0 0 Q (F0 m (pc + 1) ls (.int v :: rest))) : W p l e R s m args below meth c H locs 0 0 Q (F0 m pc ls (.int i :: .ref (ad 22) :: rest)) := by
  obtain ⟨hx, hb, -, -, -, hown, hT, hK, -⟩ := X
  obtain ⟨hin, rfl⟩ := rdA_some e1
  exact va_iald hx hb hK hP 22 11 rfl rfl hin hdg kk
theorem sF_11 (X : FX p s m meth c cc nL rt own D (tyF ca) A) (hP : va_P D cls (wF ad ca g) H) (hD : va_D A (wF ad ca g)) (hS : va_S A s.heap H locs) {i x : Int32} (e1 : wrA 128 g 11 i (x) = some g1) (hdg : decode cc pc = .ok (.iastore, 1)) (kk : ∀ (H1 : Heap) (locs1 : List Loc), va_P D cls (wF ad ca g1) H1 → va_D A (wF ad ca g1) → va_S A s.heap H1 locs1 → W p l e R s m args below meth c H1 locs1 0 0 Q (F0 m (pc + 1) ls rest)) : W p l e R s m args below meth c H locs 0 0 Q (F0 m pc ls (.int x :: .int i :: .ref (ad 22) :: rest)) := by
  obtain ⟨hx, hb, -, -, -, hown, hT, hK, -⟩ := X
  obtain ⟨hin, rfl⟩ := wrA_some e1
  exact va_iast hx hb hK hP hD hS 22 11 rfl rfl hin hdg (fun H1 locs1 h1 h2 h3 => kk H1 locs1 h1 h2 h3)
theorem rF_12 (X : FX p s m meth c cc nL rt own D (tyF ca) A) (hP : va_P D cls (wF ad ca g) H) {i v : Int32} (e1 : rdA 128 g 12 i = some v) (hdg : decode cc pc = .ok (.baload, 1)) (kk : W p l e R s m args below meth c H locs 0 0 Q (F0 m (pc + 1) ls (.int v :: rest))) : W p l e R s m args below meth c H locs 0 0 Q (F0 m pc ls (.int i :: .ref (ad 23) :: rest)) := by
  obtain ⟨hx, hb, -, -, -, hown, hT, hK, -⟩ := X
  obtain ⟨hin, rfl⟩ := rdA_some e1
  exact va_zald hx hb hK hP 23 12 rfl rfl hin hdg kk
theorem sF_12 (X : FX p s m meth c cc nL rt own D (tyF ca) A) (hP : va_P D cls (wF ad ca g) H) (hD : va_D A (wF ad ca g)) (hS : va_S A s.heap H locs) {i x : Int32} (e1 : wrA 128 g 12 i (nz x) = some g1) (hdg : decode cc pc = .ok (.bastore, 1)) (kk : ∀ (H1 : Heap) (locs1 : List Loc), va_P D cls (wF ad ca g1) H1 → va_D A (wF ad ca g1) → va_S A s.heap H1 locs1 → W p l e R s m args below meth c H1 locs1 0 0 Q (F0 m (pc + 1) ls rest)) : W p l e R s m args below meth c H locs 0 0 Q (F0 m pc ls (.int x :: .int i :: .ref (ad 23) :: rest)) := by
  obtain ⟨hx, hb, -, -, -, hown, hT, hK, -⟩ := X
  obtain ⟨hin, rfl⟩ := wrA_some e1
  exact va_zast hx hb hK hP hD hS 23 12 rfl rfl hin hdg (fun H1 locs1 h1 h2 h3 => kk H1 locs1 h1 h2 h3)
theorem rF_13 (X : FX p s m meth c cc nL rt own D (tyF ca) A) (hP : va_P D cls (wF ad ca g) H) {i v : Int32} (e1 : rdA 64 g 13 i = some v) (hdg : decode cc pc = .ok (.iaload, 1)) (kk : W p l e R s m args below meth c H locs 0 0 Q (F0 m (pc + 1) ls (.int v :: rest))) : W p l e R s m args below meth c H locs 0 0 Q (F0 m pc ls (.int i :: .ref (ad 24) :: rest)) := by
  obtain ⟨hx, hb, -, -, -, hown, hT, hK, -⟩ := X
  obtain ⟨hin, rfl⟩ := rdA_some e1
  exact va_iald hx hb hK hP 24 13 rfl rfl hin hdg kk
theorem sF_13 (X : FX p s m meth c cc nL rt own D (tyF ca) A) (hP : va_P D cls (wF ad ca g) H) (hD : va_D A (wF ad ca g)) (hS : va_S A s.heap H locs) {i x : Int32} (e1 : wrA 64 g 13 i (x) = some g1) (hdg : decode cc pc = .ok (.iastore, 1)) (kk : ∀ (H1 : Heap) (locs1 : List Loc), va_P D cls (wF ad ca g1) H1 → va_D A (wF ad ca g1) → va_S A s.heap H1 locs1 → W p l e R s m args below meth c H1 locs1 0 0 Q (F0 m (pc + 1) ls rest)) : W p l e R s m args below meth c H locs 0 0 Q (F0 m pc ls (.int x :: .int i :: .ref (ad 24) :: rest)) := by
  obtain ⟨hx, hb, -, -, -, hown, hT, hK, -⟩ := X
  obtain ⟨hin, rfl⟩ := wrA_some e1
  exact va_iast hx hb hK hP hD hS 24 13 rfl rfl hin hdg (fun H1 locs1 h1 h2 h3 => kk H1 locs1 h1 h2 h3)
theorem rF_14 (X : FX p s m meth c cc nL rt own D (tyF ca) A) (hP : va_P D cls (wF ad ca g) H) {i v : Int32} (e1 : rdA 64 g 14 i = some v) (hdg : decode cc pc = .ok (.iaload, 1)) (kk : W p l e R s m args below meth c H locs 0 0 Q (F0 m (pc + 1) ls (.int v :: rest))) : W p l e R s m args below meth c H locs 0 0 Q (F0 m pc ls (.int i :: .ref (ad 25) :: rest)) := by
  obtain ⟨hx, hb, -, -, -, hown, hT, hK, -⟩ := X
  obtain ⟨hin, rfl⟩ := rdA_some e1
  exact va_iald hx hb hK hP 25 14 rfl rfl hin hdg kk
theorem sF_14 (X : FX p s m meth c cc nL rt own D (tyF ca) A) (hP : va_P D cls (wF ad ca g) H) (hD : va_D A (wF ad ca g)) (hS : va_S A s.heap H locs) {i x : Int32} (e1 : wrA 64 g 14 i (x) = some g1) (hdg : decode cc pc = .ok (.iastore, 1)) (kk : ∀ (H1 : Heap) (locs1 : List Loc), va_P D cls (wF ad ca g1) H1 → va_D A (wF ad ca g1) → va_S A s.heap H1 locs1 → W p l e R s m args below meth c H1 locs1 0 0 Q (F0 m (pc + 1) ls rest)) : W p l e R s m args below meth c H locs 0 0 Q (F0 m pc ls (.int x :: .int i :: .ref (ad 25) :: rest)) := by
  obtain ⟨hx, hb, -, -, -, hown, hT, hK, -⟩ := X
  obtain ⟨hin, rfl⟩ := wrA_some e1
  exact va_iast hx hb hK hP hD hS 25 14 rfl rfl hin hdg (fun H1 locs1 h1 h2 h3 => kk H1 locs1 h1 h2 h3)
theorem rF_15 (X : FX p s m meth c cc nL rt own D (tyF ca) A) (hP : va_P D cls (wF ad ca g) H) {i v : Int32} (e1 : rdA 64 g 15 i = some v) (hdg : decode cc pc = .ok (.iaload, 1)) (kk : W p l e R s m args below meth c H locs 0 0 Q (F0 m (pc + 1) ls (.int v :: rest))) : W p l e R s m args below meth c H locs 0 0 Q (F0 m pc ls (.int i :: .ref (ad 26) :: rest)) := by
  obtain ⟨hx, hb, -, -, -, hown, hT, hK, -⟩ := X
  obtain ⟨hin, rfl⟩ := rdA_some e1
  exact va_iald hx hb hK hP 26 15 rfl rfl hin hdg kk
theorem sF_15 (X : FX p s m meth c cc nL rt own D (tyF ca) A) (hP : va_P D cls (wF ad ca g) H) (hD : va_D A (wF ad ca g)) (hS : va_S A s.heap H locs) {i x : Int32} (e1 : wrA 64 g 15 i (x) = some g1) (hdg : decode cc pc = .ok (.iastore, 1)) (kk : ∀ (H1 : Heap) (locs1 : List Loc), va_P D cls (wF ad ca g1) H1 → va_D A (wF ad ca g1) → va_S A s.heap H1 locs1 → W p l e R s m args below meth c H1 locs1 0 0 Q (F0 m (pc + 1) ls rest)) : W p l e R s m args below meth c H locs 0 0 Q (F0 m pc ls (.int x :: .int i :: .ref (ad 26) :: rest)) := by
  obtain ⟨hx, hb, -, -, -, hown, hT, hK, -⟩ := X
  obtain ⟨hin, rfl⟩ := wrA_some e1
  exact va_iast hx hb hK hP hD hS 26 15 rfl rfl hin hdg (fun H1 locs1 h1 h2 h3 => kk H1 locs1 h1 h2 h3)
theorem rF_16 (X : FX p s m meth c cc nL rt own D (tyF ca) A) (hP : va_P D cls (wF ad ca g) H) {i v : Int32} (e1 : rdA 64 g 16 i = some v) (hdg : decode cc pc = .ok (.iaload, 1)) (kk : W p l e R s m args below meth c H locs 0 0 Q (F0 m (pc + 1) ls (.int v :: rest))) : W p l e R s m args below meth c H locs 0 0 Q (F0 m pc ls (.int i :: .ref (ad 27) :: rest)) := by
  obtain ⟨hx, hb, -, -, -, hown, hT, hK, -⟩ := X
  obtain ⟨hin, rfl⟩ := rdA_some e1
  exact va_iald hx hb hK hP 27 16 rfl rfl hin hdg kk
theorem sF_16 (X : FX p s m meth c cc nL rt own D (tyF ca) A) (hP : va_P D cls (wF ad ca g) H) (hD : va_D A (wF ad ca g)) (hS : va_S A s.heap H locs) {i x : Int32} (e1 : wrA 64 g 16 i (x) = some g1) (hdg : decode cc pc = .ok (.iastore, 1)) (kk : ∀ (H1 : Heap) (locs1 : List Loc), va_P D cls (wF ad ca g1) H1 → va_D A (wF ad ca g1) → va_S A s.heap H1 locs1 → W p l e R s m args below meth c H1 locs1 0 0 Q (F0 m (pc + 1) ls rest)) : W p l e R s m args below meth c H locs 0 0 Q (F0 m pc ls (.int x :: .int i :: .ref (ad 27) :: rest)) := by
  obtain ⟨hx, hb, -, -, -, hown, hT, hK, -⟩ := X
  obtain ⟨hin, rfl⟩ := wrA_some e1
  exact va_iast hx hb hK hP hD hS 27 16 rfl rfl hin hdg (fun H1 locs1 h1 h2 h3 => kk H1 locs1 h1 h2 h3)
theorem rF_17 (X : FX p s m meth c cc nL rt own D (tyF ca) A) (hP : va_P D cls (wF ad ca g) H) {i v : Int32} (e1 : rdA 64 g 17 i = some v) (hdg : decode cc pc = .ok (.iaload, 1)) (kk : W p l e R s m args below meth c H locs 0 0 Q (F0 m (pc + 1) ls (.int v :: rest))) : W p l e R s m args below meth c H locs 0 0 Q (F0 m pc ls (.int i :: .ref (ad 28) :: rest)) := by
  obtain ⟨hx, hb, -, -, -, hown, hT, hK, -⟩ := X
  obtain ⟨hin, rfl⟩ := rdA_some e1
  exact va_iald hx hb hK hP 28 17 rfl rfl hin hdg kk
theorem sF_17 (X : FX p s m meth c cc nL rt own D (tyF ca) A) (hP : va_P D cls (wF ad ca g) H) (hD : va_D A (wF ad ca g)) (hS : va_S A s.heap H locs) {i x : Int32} (e1 : wrA 64 g 17 i (x) = some g1) (hdg : decode cc pc = .ok (.iastore, 1)) (kk : ∀ (H1 : Heap) (locs1 : List Loc), va_P D cls (wF ad ca g1) H1 → va_D A (wF ad ca g1) → va_S A s.heap H1 locs1 → W p l e R s m args below meth c H1 locs1 0 0 Q (F0 m (pc + 1) ls rest)) : W p l e R s m args below meth c H locs 0 0 Q (F0 m pc ls (.int x :: .int i :: .ref (ad 28) :: rest)) := by
  obtain ⟨hx, hb, -, -, -, hown, hT, hK, -⟩ := X
  obtain ⟨hin, rfl⟩ := wrA_some e1
  exact va_iast hx hb hK hP hD hS 28 17 rfl rfl hin hdg (fun H1 locs1 h1 h2 h3 => kk H1 locs1 h1 h2 h3)
theorem rF_18 (X : FX p s m meth c cc nL rt own D (tyF ca) A) (hP : va_P D cls (wF ad ca g) H) {i v : Int32} (e1 : rdA 64 g 18 i = some v) (hdg : decode cc pc = .ok (.iaload, 1)) (kk : W p l e R s m args below meth c H locs 0 0 Q (F0 m (pc + 1) ls (.int v :: rest))) : W p l e R s m args below meth c H locs 0 0 Q (F0 m pc ls (.int i :: .ref (ad 29) :: rest)) := by
  obtain ⟨hx, hb, -, -, -, hown, hT, hK, -⟩ := X
  obtain ⟨hin, rfl⟩ := rdA_some e1
  exact va_iald hx hb hK hP 29 18 rfl rfl hin hdg kk
theorem sF_18 (X : FX p s m meth c cc nL rt own D (tyF ca) A) (hP : va_P D cls (wF ad ca g) H) (hD : va_D A (wF ad ca g)) (hS : va_S A s.heap H locs) {i x : Int32} (e1 : wrA 64 g 18 i (x) = some g1) (hdg : decode cc pc = .ok (.iastore, 1)) (kk : ∀ (H1 : Heap) (locs1 : List Loc), va_P D cls (wF ad ca g1) H1 → va_D A (wF ad ca g1) → va_S A s.heap H1 locs1 → W p l e R s m args below meth c H1 locs1 0 0 Q (F0 m (pc + 1) ls rest)) : W p l e R s m args below meth c H locs 0 0 Q (F0 m pc ls (.int x :: .int i :: .ref (ad 29) :: rest)) := by
  obtain ⟨hx, hb, -, -, -, hown, hT, hK, -⟩ := X
  obtain ⟨hin, rfl⟩ := wrA_some e1
  exact va_iast hx hb hK hP hD hS 29 18 rfl rfl hin hdg (fun H1 locs1 h1 h2 h3 => kk H1 locs1 h1 h2 h3)
theorem rF_19 (X : FX p s m meth c cc nL rt own D (tyF ca) A) (hP : va_P D cls (wF ad ca g) H) {i v : Int32} (e1 : rdA 128 g 19 i = some v) (hdg : decode cc pc = .ok (.baload, 1)) (kk : W p l e R s m args below meth c H locs 0 0 Q (F0 m (pc + 1) ls (.int v :: rest))) : W p l e R s m args below meth c H locs 0 0 Q (F0 m pc ls (.int i :: .ref (ad 30) :: rest)) := by
  obtain ⟨hx, hb, -, -, -, hown, hT, hK, -⟩ := X
  obtain ⟨hin, rfl⟩ := rdA_some e1
  exact va_zald hx hb hK hP 30 19 rfl rfl hin hdg kk
theorem sF_19 (X : FX p s m meth c cc nL rt own D (tyF ca) A) (hP : va_P D cls (wF ad ca g) H) (hD : va_D A (wF ad ca g)) (hS : va_S A s.heap H locs) {i x : Int32} (e1 : wrA 128 g 19 i (nz x) = some g1) (hdg : decode cc pc = .ok (.bastore, 1)) (kk : ∀ (H1 : Heap) (locs1 : List Loc), va_P D cls (wF ad ca g1) H1 → va_D A (wF ad ca g1) → va_S A s.heap H1 locs1 → W p l e R s m args below meth c H1 locs1 0 0 Q (F0 m (pc + 1) ls rest)) : W p l e R s m args below meth c H locs 0 0 Q (F0 m pc ls (.int x :: .int i :: .ref (ad 30) :: rest)) := by
  obtain ⟨hx, hb, -, -, -, hown, hT, hK, -⟩ := X
  obtain ⟨hin, rfl⟩ := wrA_some e1
  exact va_zast hx hb hK hP hD hS 30 19 rfl rfl hin hdg (fun H1 locs1 h1 h2 h3 => kk H1 locs1 h1 h2 h3)
theorem rF_20 (X : FX p s m meth c cc nL rt own D (tyF ca) A) (hP : va_P D cls (wF ad ca g) H) {i v : Int32} (e1 : rdA 64 g 20 i = some v) (hdg : decode cc pc = .ok (.iaload, 1)) (kk : W p l e R s m args below meth c H locs 0 0 Q (F0 m (pc + 1) ls (.int v :: rest))) : W p l e R s m args below meth c H locs 0 0 Q (F0 m pc ls (.int i :: .ref (ad 31) :: rest)) := by
  obtain ⟨hx, hb, -, -, -, hown, hT, hK, -⟩ := X
  obtain ⟨hin, rfl⟩ := rdA_some e1
  exact va_iald hx hb hK hP 31 20 rfl rfl hin hdg kk
theorem sF_20 (X : FX p s m meth c cc nL rt own D (tyF ca) A) (hP : va_P D cls (wF ad ca g) H) (hD : va_D A (wF ad ca g)) (hS : va_S A s.heap H locs) {i x : Int32} (e1 : wrA 64 g 20 i (x) = some g1) (hdg : decode cc pc = .ok (.iastore, 1)) (kk : ∀ (H1 : Heap) (locs1 : List Loc), va_P D cls (wF ad ca g1) H1 → va_D A (wF ad ca g1) → va_S A s.heap H1 locs1 → W p l e R s m args below meth c H1 locs1 0 0 Q (F0 m (pc + 1) ls rest)) : W p l e R s m args below meth c H locs 0 0 Q (F0 m pc ls (.int x :: .int i :: .ref (ad 31) :: rest)) := by
  obtain ⟨hx, hb, -, -, -, hown, hT, hK, -⟩ := X
  obtain ⟨hin, rfl⟩ := wrA_some e1
  exact va_iast hx hb hK hP hD hS 31 20 rfl rfl hin hdg (fun H1 locs1 h1 h2 h3 => kk H1 locs1 h1 h2 h3)
theorem rF_21 (X : FX p s m meth c cc nL rt own D (tyF ca) A) (hP : va_P D cls (wF ad ca g) H) {i v : Int32} (e1 : rdA 64 g 21 i = some v) (hdg : decode cc pc = .ok (.iaload, 1)) (kk : W p l e R s m args below meth c H locs 0 0 Q (F0 m (pc + 1) ls (.int v :: rest))) : W p l e R s m args below meth c H locs 0 0 Q (F0 m pc ls (.int i :: .ref (ad 32) :: rest)) := by
  obtain ⟨hx, hb, -, -, -, hown, hT, hK, -⟩ := X
  obtain ⟨hin, rfl⟩ := rdA_some e1
  exact va_iald hx hb hK hP 32 21 rfl rfl hin hdg kk
theorem sF_21 (X : FX p s m meth c cc nL rt own D (tyF ca) A) (hP : va_P D cls (wF ad ca g) H) (hD : va_D A (wF ad ca g)) (hS : va_S A s.heap H locs) {i x : Int32} (e1 : wrA 64 g 21 i (x) = some g1) (hdg : decode cc pc = .ok (.iastore, 1)) (kk : ∀ (H1 : Heap) (locs1 : List Loc), va_P D cls (wF ad ca g1) H1 → va_D A (wF ad ca g1) → va_S A s.heap H1 locs1 → W p l e R s m args below meth c H1 locs1 0 0 Q (F0 m (pc + 1) ls rest)) : W p l e R s m args below meth c H locs 0 0 Q (F0 m pc ls (.int x :: .int i :: .ref (ad 32) :: rest)) := by
  obtain ⟨hx, hb, -, -, -, hown, hT, hK, -⟩ := X
  obtain ⟨hin, rfl⟩ := wrA_some e1
  exact va_iast hx hb hK hP hD hS 32 21 rfl rfl hin hdg (fun H1 locs1 h1 h2 h3 => kk H1 locs1 h1 h2 h3)
theorem rF_22 (X : FX p s m meth c cc nL rt own D (tyF ca) A) (hP : va_P D cls (wF ad ca g) H) {i v : Int32} (e1 : rdA 2176 g 22 i = some v) (hdg : decode cc pc = .ok (.iaload, 1)) (kk : W p l e R s m args below meth c H locs 0 0 Q (F0 m (pc + 1) ls (.int v :: rest))) : W p l e R s m args below meth c H locs 0 0 Q (F0 m pc ls (.int i :: .ref (ad 33) :: rest)) := by
  obtain ⟨hx, hb, -, -, -, hown, hT, hK, -⟩ := X
  obtain ⟨hin, rfl⟩ := rdA_some e1
  exact va_iald hx hb hK hP 33 22 rfl rfl hin hdg kk
theorem sF_22 (X : FX p s m meth c cc nL rt own D (tyF ca) A) (hP : va_P D cls (wF ad ca g) H) (hD : va_D A (wF ad ca g)) (hS : va_S A s.heap H locs) {i x : Int32} (e1 : wrA 2176 g 22 i (x) = some g1) (hdg : decode cc pc = .ok (.iastore, 1)) (kk : ∀ (H1 : Heap) (locs1 : List Loc), va_P D cls (wF ad ca g1) H1 → va_D A (wF ad ca g1) → va_S A s.heap H1 locs1 → W p l e R s m args below meth c H1 locs1 0 0 Q (F0 m (pc + 1) ls rest)) : W p l e R s m args below meth c H locs 0 0 Q (F0 m pc ls (.int x :: .int i :: .ref (ad 33) :: rest)) := by
  obtain ⟨hx, hb, -, -, -, hown, hT, hK, -⟩ := X
  obtain ⟨hin, rfl⟩ := wrA_some e1
  exact va_iast hx hb hK hP hD hS 33 22 rfl rfl hin hdg (fun H1 locs1 h1 h2 h3 => kk H1 locs1 h1 h2 h3)
theorem rF_23 (X : FX p s m meth c cc nL rt own D (tyF ca) A) (hP : va_P D cls (wF ad ca g) H) {i v : Int32} (e1 : rdA 251 g 23 i = some v) (hdg : decode cc pc = .ok (.iaload, 1)) (kk : W p l e R s m args below meth c H locs 0 0 Q (F0 m (pc + 1) ls (.int v :: rest))) : W p l e R s m args below meth c H locs 0 0 Q (F0 m pc ls (.int i :: .ref (ad 34) :: rest)) := by
  obtain ⟨hx, hb, -, -, -, hown, hT, hK, -⟩ := X
  obtain ⟨hin, rfl⟩ := rdA_some e1
  exact va_iald hx hb hK hP 34 23 rfl rfl hin hdg kk
theorem sF_23 (X : FX p s m meth c cc nL rt own D (tyF ca) A) (hP : va_P D cls (wF ad ca g) H) (hD : va_D A (wF ad ca g)) (hS : va_S A s.heap H locs) {i x : Int32} (e1 : wrA 251 g 23 i (x) = some g1) (hdg : decode cc pc = .ok (.iastore, 1)) (kk : ∀ (H1 : Heap) (locs1 : List Loc), va_P D cls (wF ad ca g1) H1 → va_D A (wF ad ca g1) → va_S A s.heap H1 locs1 → W p l e R s m args below meth c H1 locs1 0 0 Q (F0 m (pc + 1) ls rest)) : W p l e R s m args below meth c H locs 0 0 Q (F0 m pc ls (.int x :: .int i :: .ref (ad 34) :: rest)) := by
  obtain ⟨hx, hb, -, -, -, hown, hT, hK, -⟩ := X
  obtain ⟨hin, rfl⟩ := wrA_some e1
  exact va_iast hx hb hK hP hD hS 34 23 rfl rfl hin hdg (fun H1 locs1 h1 h2 h3 => kk H1 locs1 h1 h2 h3)
theorem rF_24 (X : FX p s m meth c cc nL rt own D (tyF ca) A) (hP : va_P D cls (wF ad ca g) H) {i v : Int32} (e1 : rdA 2117 g 24 i = some v) (hdg : decode cc pc = .ok (.iaload, 1)) (kk : W p l e R s m args below meth c H locs 0 0 Q (F0 m (pc + 1) ls (.int v :: rest))) : W p l e R s m args below meth c H locs 0 0 Q (F0 m pc ls (.int i :: .ref (ad 35) :: rest)) := by
  obtain ⟨hx, hb, -, -, -, hown, hT, hK, -⟩ := X
  obtain ⟨hin, rfl⟩ := rdA_some e1
  exact va_iald hx hb hK hP 35 24 rfl rfl hin hdg kk
theorem sF_24 (X : FX p s m meth c cc nL rt own D (tyF ca) A) (hP : va_P D cls (wF ad ca g) H) (hD : va_D A (wF ad ca g)) (hS : va_S A s.heap H locs) {i x : Int32} (e1 : wrA 2117 g 24 i (x) = some g1) (hdg : decode cc pc = .ok (.iastore, 1)) (kk : ∀ (H1 : Heap) (locs1 : List Loc), va_P D cls (wF ad ca g1) H1 → va_D A (wF ad ca g1) → va_S A s.heap H1 locs1 → W p l e R s m args below meth c H1 locs1 0 0 Q (F0 m (pc + 1) ls rest)) : W p l e R s m args below meth c H locs 0 0 Q (F0 m pc ls (.int x :: .int i :: .ref (ad 35) :: rest)) := by
  obtain ⟨hx, hb, -, -, -, hown, hT, hK, -⟩ := X
  obtain ⟨hin, rfl⟩ := wrA_some e1
  exact va_iast hx hb hK hP hD hS 35 24 rfl rfl hin hdg (fun H1 locs1 h1 h2 h3 => kk H1 locs1 h1 h2 h3)
theorem rF_25 (X : FX p s m meth c cc nL rt own D (tyF ca) A) (hP : va_P D cls (wF ad ca g) H) {i v : Int32} (e1 : rdA 2048 g 25 i = some v) (hdg : decode cc pc = .ok (.iaload, 1)) (kk : W p l e R s m args below meth c H locs 0 0 Q (F0 m (pc + 1) ls (.int v :: rest))) : W p l e R s m args below meth c H locs 0 0 Q (F0 m pc ls (.int i :: .ref (ad 36) :: rest)) := by
  obtain ⟨hx, hb, -, -, -, hown, hT, hK, -⟩ := X
  obtain ⟨hin, rfl⟩ := rdA_some e1
  exact va_iald hx hb hK hP 36 25 rfl rfl hin hdg kk
theorem sF_25 (X : FX p s m meth c cc nL rt own D (tyF ca) A) (hP : va_P D cls (wF ad ca g) H) (hD : va_D A (wF ad ca g)) (hS : va_S A s.heap H locs) {i x : Int32} (e1 : wrA 2048 g 25 i (x) = some g1) (hdg : decode cc pc = .ok (.iastore, 1)) (kk : ∀ (H1 : Heap) (locs1 : List Loc), va_P D cls (wF ad ca g1) H1 → va_D A (wF ad ca g1) → va_S A s.heap H1 locs1 → W p l e R s m args below meth c H1 locs1 0 0 Q (F0 m (pc + 1) ls rest)) : W p l e R s m args below meth c H locs 0 0 Q (F0 m pc ls (.int x :: .int i :: .ref (ad 36) :: rest)) := by
  obtain ⟨hx, hb, -, -, -, hown, hT, hK, -⟩ := X
  obtain ⟨hin, rfl⟩ := wrA_some e1
  exact va_iast hx hb hK hP hD hS 36 25 rfl rfl hin hdg (fun H1 locs1 h1 h2 h3 => kk H1 locs1 h1 h2 h3)
theorem rF_26 (X : FX p s m meth c cc nL rt own D (tyF ca) A) (hP : va_P D cls (wF ad ca g) H) {i v : Int32} (e1 : rdA 64 g 26 i = some v) (hdg : decode cc pc = .ok (.iaload, 1)) (kk : W p l e R s m args below meth c H locs 0 0 Q (F0 m (pc + 1) ls (.int v :: rest))) : W p l e R s m args below meth c H locs 0 0 Q (F0 m pc ls (.int i :: .ref (ad 37) :: rest)) := by
  obtain ⟨hx, hb, -, -, -, hown, hT, hK, -⟩ := X
  obtain ⟨hin, rfl⟩ := rdA_some e1
  exact va_iald hx hb hK hP 37 26 rfl rfl hin hdg kk
theorem sF_26 (X : FX p s m meth c cc nL rt own D (tyF ca) A) (hP : va_P D cls (wF ad ca g) H) (hD : va_D A (wF ad ca g)) (hS : va_S A s.heap H locs) {i x : Int32} (e1 : wrA 64 g 26 i (x) = some g1) (hdg : decode cc pc = .ok (.iastore, 1)) (kk : ∀ (H1 : Heap) (locs1 : List Loc), va_P D cls (wF ad ca g1) H1 → va_D A (wF ad ca g1) → va_S A s.heap H1 locs1 → W p l e R s m args below meth c H1 locs1 0 0 Q (F0 m (pc + 1) ls rest)) : W p l e R s m args below meth c H locs 0 0 Q (F0 m pc ls (.int x :: .int i :: .ref (ad 37) :: rest)) := by
  obtain ⟨hx, hb, -, -, -, hown, hT, hK, -⟩ := X
  obtain ⟨hin, rfl⟩ := wrA_some e1
  exact va_iast hx hb hK hP hD hS 37 26 rfl rfl hin hdg (fun H1 locs1 h1 h2 h3 => kk H1 locs1 h1 h2 h3)
end CELF
