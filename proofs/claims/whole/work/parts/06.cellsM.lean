section CELM
variable {p : Program} {l : Launch} {e : Env} {R : Room} {s : State} {m : MethodId} {args : Array Value} {below : List Frame} {meth : Method} {c : Code} {H : Heap} {locs : List Loc} {Q : State → Prop}
variable {cc : ByteArray} {own : String} {nL : Nat} {D : va_G} {ad : Nat → Nat} {ca : Nat → ClassId} {A : Nat → Prop} {g g1 : St} {pc : Nat} {ls : Array Slot} {rest : List Value} {rt : Option FieldType}

theorem gM_mod_thrown (X : FX p s m meth c cc nL rt R_Mod D (tyM ca) A) (hP : va_P D cls (wM ad ca g) H) (hdg : decode cc pc = .ok (.getfield 76, 3)) (kk : W p l e R s m args below meth c H locs 0 0 Q (F0 m (pc + 3) ls (.int (g.1 0) :: rest))) : W p l e R s m args below meth c H locs 0 0 Q (F0 m pc ls (.ref (ad 0) :: rest)) := by
  obtain ⟨hx, hb, -, -, -, hown, hT, hK, -⟩ := X
  exact va_get (C := R_Mod) (T := F_Mod) (N := 33) (Ts := TT) hx hb (fun _ h => hT.use h) in_Mod hown hK hP 0 rfl rfl 0 (by decide) (hT.use q7_143) (fun _ h => h) rfl hdg kk
theorem uM_mod_thrown (X : FX p s m meth c cc nL rt R_Mod D (tyM ca) A) (hP : va_P D cls (wM ad ca g) H) (hD : va_D A (wM ad ca g)) (hS : va_S A s.heap H locs) {v : Int32} (e1 : setI g 0 v = g1) (hdg : decode cc pc = .ok (.putfield 76, 3)) (kk : ∀ (H1 : Heap) (locs1 : List Loc), va_P D cls (wM ad ca g1) H1 → va_D A (wM ad ca g1) → va_S A s.heap H1 locs1 → W p l e R s m args below meth c H1 locs1 0 0 Q (F0 m (pc + 3) ls rest)) : W p l e R s m args below meth c H locs 0 0 Q (F0 m pc ls (.int v :: .ref (ad 0) :: rest)) := by
  obtain ⟨hx, hb, -, -, -, hown, hT, hK, -⟩ := X
  subst e1
  exact va_put (ty := .int) (C := R_Mod) (T := F_Mod) (N := 33) (Ts := TT) hx hb (fun _ h => hT.use h) in_Mod ft_Mod ft_Mod_ok n_Mod hown hK hP hD hS 0 rfl rfl 0 (by decide) (hT.use q7_143) (fun _ h => h) rfl (by decide +kernel) rfl rfl (Nat.le_of_ble_eq_true rfl) hdg (fun H1 locs1 h1 h2 h3 => kk H1 locs1 h1 h2 h3)
theorem gM_mod_device (X : FX p s m meth c cc nL rt R_Mod D (tyM ca) A) (hP : va_P D cls (wM ad ca g) H) (hdg : decode cc pc = .ok (.getfield 152, 3)) (kk : W p l e R s m args below meth c H locs 0 0 Q (F0 m (pc + 3) ls (.int (g.1 1) :: rest))) : W p l e R s m args below meth c H locs 0 0 Q (F0 m pc ls (.ref (ad 0) :: rest)) := by
  obtain ⟨hx, hb, -, -, -, hown, hT, hK, -⟩ := X
  exact va_get (C := R_Mod) (T := F_Mod) (N := 33) (Ts := TT) hx hb (fun _ h => hT.use h) in_Mod hown hK hP 0 rfl rfl 1 (by decide) (hT.use q7_144) (fun _ h => h) rfl hdg kk
theorem uM_mod_device (X : FX p s m meth c cc nL rt R_Mod D (tyM ca) A) (hP : va_P D cls (wM ad ca g) H) (hD : va_D A (wM ad ca g)) (hS : va_S A s.heap H locs) {v : Int32} (hz : v = 0 ∨ v = 1) (e1 : setI g 1 v = g1) (hdg : decode cc pc = .ok (.putfield 152, 3)) (kk : ∀ (H1 : Heap) (locs1 : List Loc), va_P D cls (wM ad ca g1) H1 → va_D A (wM ad ca g1) → va_S A s.heap H1 locs1 → W p l e R s m args below meth c H1 locs1 0 0 Q (F0 m (pc + 3) ls rest)) : W p l e R s m args below meth c H locs 0 0 Q (F0 m pc ls (.int v :: .ref (ad 0) :: rest)) := by
  obtain ⟨hx, hb, -, -, -, hown, hT, hK, -⟩ := X
  subst e1
  have hn : narrow .boolean (.int v) = .int v := by rcases hz with rfl | rfl <;> rfl
  exact va_put (ty := .boolean) (C := R_Mod) (T := F_Mod) (N := 33) (Ts := TT) hx hb (fun _ h => hT.use h) in_Mod ft_Mod ft_Mod_ok n_Mod hown hK hP hD hS 0 rfl rfl 1 (by decide) (hT.use q7_144) (fun _ h => h) rfl (by decide +kernel) hn (by rcases hz with rfl | rfl <;> rfl) (Nat.le_of_ble_eq_true rfl) hdg (fun H1 locs1 h1 h2 h3 => kk H1 locs1 h1 h2 h3)
theorem gM_mod_mounted (X : FX p s m meth c cc nL rt R_Mod D (tyM ca) A) (hP : va_P D cls (wM ad ca g) H) (hdg : decode cc pc = .ok (.getfield 107, 3)) (kk : W p l e R s m args below meth c H locs 0 0 Q (F0 m (pc + 3) ls (.int (g.1 2) :: rest))) : W p l e R s m args below meth c H locs 0 0 Q (F0 m pc ls (.ref (ad 0) :: rest)) := by
  obtain ⟨hx, hb, -, -, -, hown, hT, hK, -⟩ := X
  exact va_get (C := R_Mod) (T := F_Mod) (N := 33) (Ts := TT) hx hb (fun _ h => hT.use h) in_Mod hown hK hP 0 rfl rfl 2 (by decide) (hT.use q7_145) (fun _ h => h) rfl hdg kk
theorem uM_mod_mounted (X : FX p s m meth c cc nL rt R_Mod D (tyM ca) A) (hP : va_P D cls (wM ad ca g) H) (hD : va_D A (wM ad ca g)) (hS : va_S A s.heap H locs) {v : Int32} (hz : v = 0 ∨ v = 1) (e1 : setI g 2 v = g1) (hdg : decode cc pc = .ok (.putfield 107, 3)) (kk : ∀ (H1 : Heap) (locs1 : List Loc), va_P D cls (wM ad ca g1) H1 → va_D A (wM ad ca g1) → va_S A s.heap H1 locs1 → W p l e R s m args below meth c H1 locs1 0 0 Q (F0 m (pc + 3) ls rest)) : W p l e R s m args below meth c H locs 0 0 Q (F0 m pc ls (.int v :: .ref (ad 0) :: rest)) := by
  obtain ⟨hx, hb, -, -, -, hown, hT, hK, -⟩ := X
  subst e1
  have hn : narrow .boolean (.int v) = .int v := by rcases hz with rfl | rfl <;> rfl
  exact va_put (ty := .boolean) (C := R_Mod) (T := F_Mod) (N := 33) (Ts := TT) hx hb (fun _ h => hT.use h) in_Mod ft_Mod ft_Mod_ok n_Mod hown hK hP hD hS 0 rfl rfl 2 (by decide) (hT.use q7_145) (fun _ h => h) rfl (by decide +kernel) hn (by rcases hz with rfl | rfl <;> rfl) (Nat.le_of_ble_eq_true rfl) hdg (fun H1 locs1 h1 h2 h3 => kk H1 locs1 h1 h2 h3)
theorem gM_mod_most (X : FX p s m meth c cc nL rt R_Mod D (tyM ca) A) (hP : va_P D cls (wM ad ca g) H) (hdg : decode cc pc = .ok (.getfield 138, 3)) (kk : W p l e R s m args below meth c H locs 0 0 Q (F0 m (pc + 3) ls (.int (g.1 3) :: rest))) : W p l e R s m args below meth c H locs 0 0 Q (F0 m pc ls (.ref (ad 0) :: rest)) := by
  obtain ⟨hx, hb, -, -, -, hown, hT, hK, -⟩ := X
  exact va_get (C := R_Mod) (T := F_Mod) (N := 33) (Ts := TT) hx hb (fun _ h => hT.use h) in_Mod hown hK hP 0 rfl rfl 3 (by decide) (hT.use q7_146) (fun _ h => h) rfl hdg kk
theorem uM_mod_most (X : FX p s m meth c cc nL rt R_Mod D (tyM ca) A) (hP : va_P D cls (wM ad ca g) H) (hD : va_D A (wM ad ca g)) (hS : va_S A s.heap H locs) {v : Int32} (e1 : setI g 3 v = g1) (hdg : decode cc pc = .ok (.putfield 138, 3)) (kk : ∀ (H1 : Heap) (locs1 : List Loc), va_P D cls (wM ad ca g1) H1 → va_D A (wM ad ca g1) → va_S A s.heap H1 locs1 → W p l e R s m args below meth c H1 locs1 0 0 Q (F0 m (pc + 3) ls rest)) : W p l e R s m args below meth c H locs 0 0 Q (F0 m pc ls (.int v :: .ref (ad 0) :: rest)) := by
  obtain ⟨hx, hb, -, -, -, hown, hT, hK, -⟩ := X
  subst e1
  exact va_put (ty := .int) (C := R_Mod) (T := F_Mod) (N := 33) (Ts := TT) hx hb (fun _ h => hT.use h) in_Mod ft_Mod ft_Mod_ok n_Mod hown hK hP hD hS 0 rfl rfl 3 (by decide) (hT.use q7_146) (fun _ h => h) rfl (by decide +kernel) rfl rfl (Nat.le_of_ble_eq_true rfl) hdg (fun H1 locs1 h1 h2 h3 => kk H1 locs1 h1 h2 h3)
theorem gM_mod_used (X : FX p s m meth c cc nL rt R_Mod D (tyM ca) A) (hP : va_P D cls (wM ad ca g) H) (hdg : decode cc pc = .ok (.getfield 129, 3)) (kk : W p l e R s m args below meth c H locs 0 0 Q (F0 m (pc + 3) ls (.int (g.1 4) :: rest))) : W p l e R s m args below meth c H locs 0 0 Q (F0 m pc ls (.ref (ad 0) :: rest)) := by
  obtain ⟨hx, hb, -, -, -, hown, hT, hK, -⟩ := X
  exact va_get (C := R_Mod) (T := F_Mod) (N := 33) (Ts := TT) hx hb (fun _ h => hT.use h) in_Mod hown hK hP 0 rfl rfl 4 (by decide) (hT.use q7_147) (fun _ h => h) rfl hdg kk
theorem uM_mod_used (X : FX p s m meth c cc nL rt R_Mod D (tyM ca) A) (hP : va_P D cls (wM ad ca g) H) (hD : va_D A (wM ad ca g)) (hS : va_S A s.heap H locs) {v : Int32} (e1 : setI g 4 v = g1) (hdg : decode cc pc = .ok (.putfield 129, 3)) (kk : ∀ (H1 : Heap) (locs1 : List Loc), va_P D cls (wM ad ca g1) H1 → va_D A (wM ad ca g1) → va_S A s.heap H1 locs1 → W p l e R s m args below meth c H1 locs1 0 0 Q (F0 m (pc + 3) ls rest)) : W p l e R s m args below meth c H locs 0 0 Q (F0 m pc ls (.int v :: .ref (ad 0) :: rest)) := by
  obtain ⟨hx, hb, -, -, -, hown, hT, hK, -⟩ := X
  subst e1
  exact va_put (ty := .int) (C := R_Mod) (T := F_Mod) (N := 33) (Ts := TT) hx hb (fun _ h => hT.use h) in_Mod ft_Mod ft_Mod_ok n_Mod hown hK hP hD hS 0 rfl rfl 4 (by decide) (hT.use q7_147) (fun _ h => h) rfl (by decide +kernel) rfl rfl (Nat.le_of_ble_eq_true rfl) hdg (fun H1 locs1 h1 h2 h3 => kk H1 locs1 h1 h2 h3)
theorem gM_mod_fresh (X : FX p s m meth c cc nL rt R_Mod D (tyM ca) A) (hP : va_P D cls (wM ad ca g) H) (hdg : decode cc pc = .ok (.getfield 132, 3)) (kk : W p l e R s m args below meth c H locs 0 0 Q (F0 m (pc + 3) ls (.int (g.1 5) :: rest))) : W p l e R s m args below meth c H locs 0 0 Q (F0 m pc ls (.ref (ad 0) :: rest)) := by
  obtain ⟨hx, hb, -, -, -, hown, hT, hK, -⟩ := X
  exact va_get (C := R_Mod) (T := F_Mod) (N := 33) (Ts := TT) hx hb (fun _ h => hT.use h) in_Mod hown hK hP 0 rfl rfl 5 (by decide) (hT.use q7_148) (fun _ h => h) rfl hdg kk
theorem uM_mod_fresh (X : FX p s m meth c cc nL rt R_Mod D (tyM ca) A) (hP : va_P D cls (wM ad ca g) H) (hD : va_D A (wM ad ca g)) (hS : va_S A s.heap H locs) {v : Int32} (e1 : setI g 5 v = g1) (hdg : decode cc pc = .ok (.putfield 132, 3)) (kk : ∀ (H1 : Heap) (locs1 : List Loc), va_P D cls (wM ad ca g1) H1 → va_D A (wM ad ca g1) → va_S A s.heap H1 locs1 → W p l e R s m args below meth c H1 locs1 0 0 Q (F0 m (pc + 3) ls rest)) : W p l e R s m args below meth c H locs 0 0 Q (F0 m pc ls (.int v :: .ref (ad 0) :: rest)) := by
  obtain ⟨hx, hb, -, -, -, hown, hT, hK, -⟩ := X
  subst e1
  exact va_put (ty := .int) (C := R_Mod) (T := F_Mod) (N := 33) (Ts := TT) hx hb (fun _ h => hT.use h) in_Mod ft_Mod ft_Mod_ok n_Mod hown hK hP hD hS 0 rfl rfl 5 (by decide) (hT.use q7_148) (fun _ h => h) rfl (by decide +kernel) rfl rfl (Nat.le_of_ble_eq_true rfl) hdg (fun H1 locs1 h1 h2 h3 => kk H1 locs1 h1 h2 h3)
theorem gM_mod_checkpoints (X : FX p s m meth c cc nL rt R_Mod D (tyM ca) A) (hP : va_P D cls (wM ad ca g) H) (hdg : decode cc pc = .ok (.getfield 135, 3)) (kk : W p l e R s m args below meth c H locs 0 0 Q (F0 m (pc + 3) ls (.int (g.1 6) :: rest))) : W p l e R s m args below meth c H locs 0 0 Q (F0 m pc ls (.ref (ad 0) :: rest)) := by
  obtain ⟨hx, hb, -, -, -, hown, hT, hK, -⟩ := X
  exact va_get (C := R_Mod) (T := F_Mod) (N := 33) (Ts := TT) hx hb (fun _ h => hT.use h) in_Mod hown hK hP 0 rfl rfl 6 (by decide) (hT.use q7_149) (fun _ h => h) rfl hdg kk
theorem uM_mod_checkpoints (X : FX p s m meth c cc nL rt R_Mod D (tyM ca) A) (hP : va_P D cls (wM ad ca g) H) (hD : va_D A (wM ad ca g)) (hS : va_S A s.heap H locs) {v : Int32} (e1 : setI g 6 v = g1) (hdg : decode cc pc = .ok (.putfield 135, 3)) (kk : ∀ (H1 : Heap) (locs1 : List Loc), va_P D cls (wM ad ca g1) H1 → va_D A (wM ad ca g1) → va_S A s.heap H1 locs1 → W p l e R s m args below meth c H1 locs1 0 0 Q (F0 m (pc + 3) ls rest)) : W p l e R s m args below meth c H locs 0 0 Q (F0 m pc ls (.int v :: .ref (ad 0) :: rest)) := by
  obtain ⟨hx, hb, -, -, -, hown, hT, hK, -⟩ := X
  subst e1
  exact va_put (ty := .int) (C := R_Mod) (T := F_Mod) (N := 33) (Ts := TT) hx hb (fun _ h => hT.use h) in_Mod ft_Mod ft_Mod_ok n_Mod hown hK hP hD hS 0 rfl rfl 6 (by decide) (hT.use q7_149) (fun _ h => h) rfl (by decide +kernel) rfl rfl (Nat.le_of_ble_eq_true rfl) hdg (fun H1 locs1 h1 h2 h3 => kk H1 locs1 h1 h2 h3)
theorem gM_mod_forward (X : FX p s m meth c cc nL rt R_Mod D (tyM ca) A) (hP : va_P D cls (wM ad ca g) H) (hdg : decode cc pc = .ok (.getfield 155, 3)) (kk : W p l e R s m args below meth c H locs 0 0 Q (F0 m (pc + 3) ls (.int (g.1 7) :: rest))) : W p l e R s m args below meth c H locs 0 0 Q (F0 m pc ls (.ref (ad 0) :: rest)) := by
  obtain ⟨hx, hb, -, -, -, hown, hT, hK, -⟩ := X
  exact va_get (C := R_Mod) (T := F_Mod) (N := 33) (Ts := TT) hx hb (fun _ h => hT.use h) in_Mod hown hK hP 0 rfl rfl 7 (by decide) (hT.use q7_150) (fun _ h => h) rfl hdg kk
theorem uM_mod_forward (X : FX p s m meth c cc nL rt R_Mod D (tyM ca) A) (hP : va_P D cls (wM ad ca g) H) (hD : va_D A (wM ad ca g)) (hS : va_S A s.heap H locs) {v : Int32} (e1 : setI g 7 v = g1) (hdg : decode cc pc = .ok (.putfield 155, 3)) (kk : ∀ (H1 : Heap) (locs1 : List Loc), va_P D cls (wM ad ca g1) H1 → va_D A (wM ad ca g1) → va_S A s.heap H1 locs1 → W p l e R s m args below meth c H1 locs1 0 0 Q (F0 m (pc + 3) ls rest)) : W p l e R s m args below meth c H locs 0 0 Q (F0 m pc ls (.int v :: .ref (ad 0) :: rest)) := by
  obtain ⟨hx, hb, -, -, -, hown, hT, hK, -⟩ := X
  subst e1
  exact va_put (ty := .int) (C := R_Mod) (T := F_Mod) (N := 33) (Ts := TT) hx hb (fun _ h => hT.use h) in_Mod ft_Mod ft_Mod_ok n_Mod hown hK hP hD hS 0 rfl rfl 7 (by decide) (hT.use q7_150) (fun _ h => h) rfl (by decide +kernel) rfl rfl (Nat.le_of_ble_eq_true rfl) hdg (fun H1 locs1 h1 h2 h3 => kk H1 locs1 h1 h2 h3)
theorem gM_mod_cut (X : FX p s m meth c cc nL rt R_Mod D (tyM ca) A) (hP : va_P D cls (wM ad ca g) H) (hdg : decode cc pc = .ok (.getfield 9, 3)) (kk : W p l e R s m args below meth c H locs 0 0 Q (F0 m (pc + 3) ls (.int (g.1 8) :: rest))) : W p l e R s m args below meth c H locs 0 0 Q (F0 m pc ls (.ref (ad 0) :: rest)) := by
  obtain ⟨hx, hb, -, -, -, hown, hT, hK, -⟩ := X
  exact va_get (C := R_Mod) (T := F_Mod) (N := 33) (Ts := TT) hx hb (fun _ h => hT.use h) in_Mod hown hK hP 0 rfl rfl 8 (by decide) (hT.use q7_151) (fun _ h => h) rfl hdg kk
theorem uM_mod_cut (X : FX p s m meth c cc nL rt R_Mod D (tyM ca) A) (hP : va_P D cls (wM ad ca g) H) (hD : va_D A (wM ad ca g)) (hS : va_S A s.heap H locs) {v : Int32} (e1 : setI g 8 v = g1) (hdg : decode cc pc = .ok (.putfield 9, 3)) (kk : ∀ (H1 : Heap) (locs1 : List Loc), va_P D cls (wM ad ca g1) H1 → va_D A (wM ad ca g1) → va_S A s.heap H1 locs1 → W p l e R s m args below meth c H1 locs1 0 0 Q (F0 m (pc + 3) ls rest)) : W p l e R s m args below meth c H locs 0 0 Q (F0 m pc ls (.int v :: .ref (ad 0) :: rest)) := by
  obtain ⟨hx, hb, -, -, -, hown, hT, hK, -⟩ := X
  subst e1
  exact va_put (ty := .int) (C := R_Mod) (T := F_Mod) (N := 33) (Ts := TT) hx hb (fun _ h => hT.use h) in_Mod ft_Mod ft_Mod_ok n_Mod hown hK hP hD hS 0 rfl rfl 8 (by decide) (hT.use q7_151) (fun _ h => h) rfl (by decide +kernel) rfl rfl (Nat.le_of_ble_eq_true rfl) hdg (fun H1 locs1 h1 h2 h3 => kk H1 locs1 h1 h2 h3)
theorem gM_mod_tape (X : FX p s m meth c cc nL rt R_Mod D (tyM ca) A) (hP : va_P D cls (wM ad ca g) H) (hdg : decode cc pc = .ok (.getfield 13, 3)) (kk : W p l e R s m args below meth c H locs 0 0 Q (F0 m (pc + 3) ls (.ref (ad 1) :: rest))) : W p l e R s m args below meth c H locs 0 0 Q (F0 m pc ls (.ref (ad 0) :: rest)) := by
  obtain ⟨hx, hb, -, -, -, hown, hT, hK, -⟩ := X
  exact va_get (C := R_Mod) (T := F_Mod) (N := 33) (Ts := TT) hx hb (fun _ h => hT.use h) in_Mod hown hK hP 0 rfl rfl 9 (by decide) (hT.use q7_152) (fun _ h => h) rfl hdg kk
theorem gM_mod_taped (X : FX p s m meth c cc nL rt R_Mod D (tyM ca) A) (hP : va_P D cls (wM ad ca g) H) (hdg : decode cc pc = .ok (.getfield 158, 3)) (kk : W p l e R s m args below meth c H locs 0 0 Q (F0 m (pc + 3) ls (.int (g.1 9) :: rest))) : W p l e R s m args below meth c H locs 0 0 Q (F0 m pc ls (.ref (ad 0) :: rest)) := by
  obtain ⟨hx, hb, -, -, -, hown, hT, hK, -⟩ := X
  exact va_get (C := R_Mod) (T := F_Mod) (N := 33) (Ts := TT) hx hb (fun _ h => hT.use h) in_Mod hown hK hP 0 rfl rfl 10 (by decide) (hT.use q7_153) (fun _ h => h) rfl hdg kk
theorem uM_mod_taped (X : FX p s m meth c cc nL rt R_Mod D (tyM ca) A) (hP : va_P D cls (wM ad ca g) H) (hD : va_D A (wM ad ca g)) (hS : va_S A s.heap H locs) {v : Int32} (e1 : setI g 9 v = g1) (hdg : decode cc pc = .ok (.putfield 158, 3)) (kk : ∀ (H1 : Heap) (locs1 : List Loc), va_P D cls (wM ad ca g1) H1 → va_D A (wM ad ca g1) → va_S A s.heap H1 locs1 → W p l e R s m args below meth c H1 locs1 0 0 Q (F0 m (pc + 3) ls rest)) : W p l e R s m args below meth c H locs 0 0 Q (F0 m pc ls (.int v :: .ref (ad 0) :: rest)) := by
  obtain ⟨hx, hb, -, -, -, hown, hT, hK, -⟩ := X
  subst e1
  exact va_put (ty := .int) (C := R_Mod) (T := F_Mod) (N := 33) (Ts := TT) hx hb (fun _ h => hT.use h) in_Mod ft_Mod ft_Mod_ok n_Mod hown hK hP hD hS 0 rfl rfl 10 (by decide) (hT.use q7_153) (fun _ h => h) rfl (by decide +kernel) rfl rfl (Nat.le_of_ble_eq_true rfl) hdg (fun H1 locs1 h1 h2 h3 => kk H1 locs1 h1 h2 h3)
theorem gM_mod_told (X : FX p s m meth c cc nL rt R_Mod D (tyM ca) A) (hP : va_P D cls (wM ad ca g) H) (hdg : decode cc pc = .ok (.getfield 17, 3)) (kk : W p l e R s m args below meth c H locs 0 0 Q (F0 m (pc + 3) ls (.ref (ad 2) :: rest))) : W p l e R s m args below meth c H locs 0 0 Q (F0 m pc ls (.ref (ad 0) :: rest)) := by
  obtain ⟨hx, hb, -, -, -, hown, hT, hK, -⟩ := X
  exact va_get (C := R_Mod) (T := F_Mod) (N := 33) (Ts := TT) hx hb (fun _ h => hT.use h) in_Mod hown hK hP 0 rfl rfl 11 (by decide) (hT.use q7_154) (fun _ h => h) rfl hdg kk
theorem gM_mod_toldSize (X : FX p s m meth c cc nL rt R_Mod D (tyM ca) A) (hP : va_P D cls (wM ad ca g) H) (hdg : decode cc pc = .ok (.getfield 210, 3)) (kk : W p l e R s m args below meth c H locs 0 0 Q (F0 m (pc + 3) ls (.int (g.1 10) :: rest))) : W p l e R s m args below meth c H locs 0 0 Q (F0 m pc ls (.ref (ad 0) :: rest)) := by
  obtain ⟨hx, hb, -, -, -, hown, hT, hK, -⟩ := X
  exact va_get (C := R_Mod) (T := F_Mod) (N := 33) (Ts := TT) hx hb (fun _ h => hT.use h) in_Mod hown hK hP 0 rfl rfl 12 (by decide) (hT.use q7_155) (fun _ h => h) rfl hdg kk
theorem uM_mod_toldSize (X : FX p s m meth c cc nL rt R_Mod D (tyM ca) A) (hP : va_P D cls (wM ad ca g) H) (hD : va_D A (wM ad ca g)) (hS : va_S A s.heap H locs) {v : Int32} (e1 : setI g 10 v = g1) (hdg : decode cc pc = .ok (.putfield 210, 3)) (kk : ∀ (H1 : Heap) (locs1 : List Loc), va_P D cls (wM ad ca g1) H1 → va_D A (wM ad ca g1) → va_S A s.heap H1 locs1 → W p l e R s m args below meth c H1 locs1 0 0 Q (F0 m (pc + 3) ls rest)) : W p l e R s m args below meth c H locs 0 0 Q (F0 m pc ls (.int v :: .ref (ad 0) :: rest)) := by
  obtain ⟨hx, hb, -, -, -, hown, hT, hK, -⟩ := X
  subst e1
  exact va_put (ty := .int) (C := R_Mod) (T := F_Mod) (N := 33) (Ts := TT) hx hb (fun _ h => hT.use h) in_Mod ft_Mod ft_Mod_ok n_Mod hown hK hP hD hS 0 rfl rfl 12 (by decide) (hT.use q7_155) (fun _ h => h) rfl (by decide +kernel) rfl rfl (Nat.le_of_ble_eq_true rfl) hdg (fun H1 locs1 h1 h2 h3 => kk H1 locs1 h1 h2 h3)
theorem gM_mod_kind (X : FX p s m meth c cc nL rt R_Mod D (tyM ca) A) (hP : va_P D cls (wM ad ca g) H) (hdg : decode cc pc = .ok (.getfield 20, 3)) (kk : W p l e R s m args below meth c H locs 0 0 Q (F0 m (pc + 3) ls (.ref (ad 3) :: rest))) : W p l e R s m args below meth c H locs 0 0 Q (F0 m pc ls (.ref (ad 0) :: rest)) := by
  obtain ⟨hx, hb, -, -, -, hown, hT, hK, -⟩ := X
  exact va_get (C := R_Mod) (T := F_Mod) (N := 33) (Ts := TT) hx hb (fun _ h => hT.use h) in_Mod hown hK hP 0 rfl rfl 13 (by decide) (hT.use q7_156) (fun _ h => h) rfl hdg kk
theorem gM_mod_size (X : FX p s m meth c cc nL rt R_Mod D (tyM ca) A) (hP : va_P D cls (wM ad ca g) H) (hdg : decode cc pc = .ok (.getfield 24, 3)) (kk : W p l e R s m args below meth c H locs 0 0 Q (F0 m (pc + 3) ls (.ref (ad 4) :: rest))) : W p l e R s m args below meth c H locs 0 0 Q (F0 m pc ls (.ref (ad 0) :: rest)) := by
  obtain ⟨hx, hb, -, -, -, hown, hT, hK, -⟩ := X
  exact va_get (C := R_Mod) (T := F_Mod) (N := 33) (Ts := TT) hx hb (fun _ h => hT.use h) in_Mod hown hK hP 0 rfl rfl 14 (by decide) (hT.use q7_157) (fun _ h => h) rfl hdg kk
theorem gM_mod_links (X : FX p s m meth c cc nL rt R_Mod D (tyM ca) A) (hP : va_P D cls (wM ad ca g) H) (hdg : decode cc pc = .ok (.getfield 27, 3)) (kk : W p l e R s m args below meth c H locs 0 0 Q (F0 m (pc + 3) ls (.ref (ad 5) :: rest))) : W p l e R s m args below meth c H locs 0 0 Q (F0 m pc ls (.ref (ad 0) :: rest)) := by
  obtain ⟨hx, hb, -, -, -, hown, hT, hK, -⟩ := X
  exact va_get (C := R_Mod) (T := F_Mod) (N := 33) (Ts := TT) hx hb (fun _ h => hT.use h) in_Mod hown hK hP 0 rfl rfl 15 (by decide) (hT.use q7_158) (fun _ h => h) rfl hdg kk
theorem gM_mod_small (X : FX p s m meth c cc nL rt R_Mod D (tyM ca) A) (hP : va_P D cls (wM ad ca g) H) (hdg : decode cc pc = .ok (.getfield 30, 3)) (kk : W p l e R s m args below meth c H locs 0 0 Q (F0 m (pc + 3) ls (.ref (ad 6) :: rest))) : W p l e R s m args below meth c H locs 0 0 Q (F0 m pc ls (.ref (ad 0) :: rest)) := by
  obtain ⟨hx, hb, -, -, -, hown, hT, hK, -⟩ := X
  exact va_get (C := R_Mod) (T := F_Mod) (N := 33) (Ts := TT) hx hb (fun _ h => hT.use h) in_Mod hown hK hP 0 rfl rfl 16 (by decide) (hT.use q7_159) (fun _ h => h) rfl hdg kk
theorem gM_mod_synced (X : FX p s m meth c cc nL rt R_Mod D (tyM ca) A) (hP : va_P D cls (wM ad ca g) H) (hdg : decode cc pc = .ok (.getfield 34, 3)) (kk : W p l e R s m args below meth c H locs 0 0 Q (F0 m (pc + 3) ls (.ref (ad 7) :: rest))) : W p l e R s m args below meth c H locs 0 0 Q (F0 m pc ls (.ref (ad 0) :: rest)) := by
  obtain ⟨hx, hb, -, -, -, hown, hT, hK, -⟩ := X
  exact va_get (C := R_Mod) (T := F_Mod) (N := 33) (Ts := TT) hx hb (fun _ h => hT.use h) in_Mod hown hK hP 0 rfl rfl 17 (by decide) (hT.use q7_160) (fun _ h => h) rfl hdg kk
theorem gM_mod_renamed (X : FX p s m meth c cc nL rt R_Mod D (tyM ca) A) (hP : va_P D cls (wM ad ca g) H) (hdg : decode cc pc = .ok (.getfield 37, 3)) (kk : W p l e R s m args below meth c H locs 0 0 Q (F0 m (pc + 3) ls (.ref (ad 8) :: rest))) : W p l e R s m args below meth c H locs 0 0 Q (F0 m pc ls (.ref (ad 0) :: rest)) := by
  obtain ⟨hx, hb, -, -, -, hown, hT, hK, -⟩ := X
  exact va_get (C := R_Mod) (T := F_Mod) (N := 33) (Ts := TT) hx hb (fun _ h => hT.use h) in_Mod hown hK hP 0 rfl rfl 18 (by decide) (hT.use q7_161) (fun _ h => h) rfl hdg kk
theorem gM_mod_piece (X : FX p s m meth c cc nL rt R_Mod D (tyM ca) A) (hP : va_P D cls (wM ad ca g) H) (hdg : decode cc pc = .ok (.getfield 41, 3)) (kk : W p l e R s m args below meth c H locs 0 0 Q (F0 m (pc + 3) ls (.ref (ad 9) :: rest))) : W p l e R s m args below meth c H locs 0 0 Q (F0 m pc ls (.ref (ad 0) :: rest)) := by
  obtain ⟨hx, hb, -, -, -, hown, hT, hK, -⟩ := X
  exact va_get (C := R_Mod) (T := F_Mod) (N := 33) (Ts := TT) hx hb (fun _ h => hT.use h) in_Mod hown hK hP 0 rfl rfl 19 (by decide) (hT.use q7_162) (fun _ h => h) rfl hdg kk
theorem gM_mod_pool (X : FX p s m meth c cc nL rt R_Mod D (tyM ca) A) (hP : va_P D cls (wM ad ca g) H) (hdg : decode cc pc = .ok (.getfield 45, 3)) (kk : W p l e R s m args below meth c H locs 0 0 Q (F0 m (pc + 3) ls (.ref (ad 10) :: rest))) : W p l e R s m args below meth c H locs 0 0 Q (F0 m pc ls (.ref (ad 0) :: rest)) := by
  obtain ⟨hx, hb, -, -, -, hown, hT, hK, -⟩ := X
  exact va_get (C := R_Mod) (T := F_Mod) (N := 33) (Ts := TT) hx hb (fun _ h => hT.use h) in_Mod hown hK hP 0 rfl rfl 20 (by decide) (hT.use q7_163) (fun _ h => h) rfl hdg kk
theorem gM_mod_owners (X : FX p s m meth c cc nL rt R_Mod D (tyM ca) A) (hP : va_P D cls (wM ad ca g) H) (hdg : decode cc pc = .ok (.getfield 48, 3)) (kk : W p l e R s m args below meth c H locs 0 0 Q (F0 m (pc + 3) ls (.ref (ad 11) :: rest))) : W p l e R s m args below meth c H locs 0 0 Q (F0 m pc ls (.ref (ad 0) :: rest)) := by
  obtain ⟨hx, hb, -, -, -, hown, hT, hK, -⟩ := X
  exact va_get (C := R_Mod) (T := F_Mod) (N := 33) (Ts := TT) hx hb (fun _ h => hT.use h) in_Mod hown hK hP 0 rfl rfl 21 (by decide) (hT.use q7_164) (fun _ h => h) rfl hdg kk
theorem gM_mod_search (X : FX p s m meth c cc nL rt R_Mod D (tyM ca) A) (hP : va_P D cls (wM ad ca g) H) (hdg : decode cc pc = .ok (.getfield 79, 3)) (kk : W p l e R s m args below meth c H locs 0 0 Q (F0 m (pc + 3) ls (.int (g.1 11) :: rest))) : W p l e R s m args below meth c H locs 0 0 Q (F0 m pc ls (.ref (ad 0) :: rest)) := by
  obtain ⟨hx, hb, -, -, -, hown, hT, hK, -⟩ := X
  exact va_get (C := R_Mod) (T := F_Mod) (N := 33) (Ts := TT) hx hb (fun _ h => hT.use h) in_Mod hown hK hP 0 rfl rfl 22 (by decide) (hT.use q7_165) (fun _ h => h) rfl hdg kk
theorem uM_mod_search (X : FX p s m meth c cc nL rt R_Mod D (tyM ca) A) (hP : va_P D cls (wM ad ca g) H) (hD : va_D A (wM ad ca g)) (hS : va_S A s.heap H locs) {v : Int32} (e1 : setI g 11 v = g1) (hdg : decode cc pc = .ok (.putfield 79, 3)) (kk : ∀ (H1 : Heap) (locs1 : List Loc), va_P D cls (wM ad ca g1) H1 → va_D A (wM ad ca g1) → va_S A s.heap H1 locs1 → W p l e R s m args below meth c H1 locs1 0 0 Q (F0 m (pc + 3) ls rest)) : W p l e R s m args below meth c H locs 0 0 Q (F0 m pc ls (.int v :: .ref (ad 0) :: rest)) := by
  obtain ⟨hx, hb, -, -, -, hown, hT, hK, -⟩ := X
  subst e1
  exact va_put (ty := .int) (C := R_Mod) (T := F_Mod) (N := 33) (Ts := TT) hx hb (fun _ h => hT.use h) in_Mod ft_Mod ft_Mod_ok n_Mod hown hK hP hD hS 0 rfl rfl 22 (by decide) (hT.use q7_165) (fun _ h => h) rfl (by decide +kernel) rfl rfl (Nat.le_of_ble_eq_true rfl) hdg (fun H1 locs1 h1 h2 h3 => kk H1 locs1 h1 h2 h3)
theorem gM_mod_entries (X : FX p s m meth c cc nL rt R_Mod D (tyM ca) A) (hP : va_P D cls (wM ad ca g) H) (hdg : decode cc pc = .ok (.getfield 94, 3)) (kk : W p l e R s m args below meth c H locs 0 0 Q (F0 m (pc + 3) ls (.int (g.1 12) :: rest))) : W p l e R s m args below meth c H locs 0 0 Q (F0 m pc ls (.ref (ad 0) :: rest)) := by
  obtain ⟨hx, hb, -, -, -, hown, hT, hK, -⟩ := X
  exact va_get (C := R_Mod) (T := F_Mod) (N := 33) (Ts := TT) hx hb (fun _ h => hT.use h) in_Mod hown hK hP 0 rfl rfl 23 (by decide) (hT.use q7_166) (fun _ h => h) rfl hdg kk
theorem uM_mod_entries (X : FX p s m meth c cc nL rt R_Mod D (tyM ca) A) (hP : va_P D cls (wM ad ca g) H) (hD : va_D A (wM ad ca g)) (hS : va_S A s.heap H locs) {v : Int32} (e1 : setI g 12 v = g1) (hdg : decode cc pc = .ok (.putfield 94, 3)) (kk : ∀ (H1 : Heap) (locs1 : List Loc), va_P D cls (wM ad ca g1) H1 → va_D A (wM ad ca g1) → va_S A s.heap H1 locs1 → W p l e R s m args below meth c H1 locs1 0 0 Q (F0 m (pc + 3) ls rest)) : W p l e R s m args below meth c H locs 0 0 Q (F0 m pc ls (.int v :: .ref (ad 0) :: rest)) := by
  obtain ⟨hx, hb, -, -, -, hown, hT, hK, -⟩ := X
  subst e1
  exact va_put (ty := .int) (C := R_Mod) (T := F_Mod) (N := 33) (Ts := TT) hx hb (fun _ h => hT.use h) in_Mod ft_Mod ft_Mod_ok n_Mod hown hK hP hD hS 0 rfl rfl 23 (by decide) (hT.use q7_166) (fun _ h => h) rfl (by decide +kernel) rfl rfl (Nat.le_of_ble_eq_true rfl) hdg (fun H1 locs1 h1 h2 h3 => kk H1 locs1 h1 h2 h3)
theorem gM_mod_entryDirectory (X : FX p s m meth c cc nL rt R_Mod D (tyM ca) A) (hP : va_P D cls (wM ad ca g) H) (hdg : decode cc pc = .ok (.getfield 51, 3)) (kk : W p l e R s m args below meth c H locs 0 0 Q (F0 m (pc + 3) ls (.ref (ad 12) :: rest))) : W p l e R s m args below meth c H locs 0 0 Q (F0 m pc ls (.ref (ad 0) :: rest)) := by
  obtain ⟨hx, hb, -, -, -, hown, hT, hK, -⟩ := X
  exact va_get (C := R_Mod) (T := F_Mod) (N := 33) (Ts := TT) hx hb (fun _ h => hT.use h) in_Mod hown hK hP 0 rfl rfl 24 (by decide) (hT.use q7_167) (fun _ h => h) rfl hdg kk
theorem gM_mod_entryId (X : FX p s m meth c cc nL rt R_Mod D (tyM ca) A) (hP : va_P D cls (wM ad ca g) H) (hdg : decode cc pc = .ok (.getfield 54, 3)) (kk : W p l e R s m args below meth c H locs 0 0 Q (F0 m (pc + 3) ls (.ref (ad 13) :: rest))) : W p l e R s m args below meth c H locs 0 0 Q (F0 m pc ls (.ref (ad 0) :: rest)) := by
  obtain ⟨hx, hb, -, -, -, hown, hT, hK, -⟩ := X
  exact va_get (C := R_Mod) (T := F_Mod) (N := 33) (Ts := TT) hx hb (fun _ h => hT.use h) in_Mod hown hK hP 0 rfl rfl 25 (by decide) (hT.use q7_168) (fun _ h => h) rfl hdg kk
theorem gM_mod_entryLength (X : FX p s m meth c cc nL rt R_Mod D (tyM ca) A) (hP : va_P D cls (wM ad ca g) H) (hdg : decode cc pc = .ok (.getfield 57, 3)) (kk : W p l e R s m args below meth c H locs 0 0 Q (F0 m (pc + 3) ls (.ref (ad 14) :: rest))) : W p l e R s m args below meth c H locs 0 0 Q (F0 m pc ls (.ref (ad 0) :: rest)) := by
  obtain ⟨hx, hb, -, -, -, hown, hT, hK, -⟩ := X
  exact va_get (C := R_Mod) (T := F_Mod) (N := 33) (Ts := TT) hx hb (fun _ h => hT.use h) in_Mod hown hK hP 0 rfl rfl 26 (by decide) (hT.use q7_169) (fun _ h => h) rfl hdg kk
theorem gM_mod_entryName (X : FX p s m meth c cc nL rt R_Mod D (tyM ca) A) (hP : va_P D cls (wM ad ca g) H) (hdg : decode cc pc = .ok (.getfield 61, 3)) (kk : W p l e R s m args below meth c H locs 0 0 Q (F0 m (pc + 3) ls (.ref (ad 15) :: rest))) : W p l e R s m args below meth c H locs 0 0 Q (F0 m pc ls (.ref (ad 0) :: rest)) := by
  obtain ⟨hx, hb, -, -, -, hown, hT, hK, -⟩ := X
  exact va_get (C := R_Mod) (T := F_Mod) (N := 33) (Ts := TT) hx hb (fun _ h => hT.use h) in_Mod hown hK hP 0 rfl rfl 27 (by decide) (hT.use q7_170) (fun _ h => h) rfl hdg kk
theorem gM_mod_oldEntries (X : FX p s m meth c cc nL rt R_Mod D (tyM ca) A) (hP : va_P D cls (wM ad ca g) H) (hdg : decode cc pc = .ok (.getfield 123, 3)) (kk : W p l e R s m args below meth c H locs 0 0 Q (F0 m (pc + 3) ls (.int (g.1 13) :: rest))) : W p l e R s m args below meth c H locs 0 0 Q (F0 m pc ls (.ref (ad 0) :: rest)) := by
  obtain ⟨hx, hb, -, -, -, hown, hT, hK, -⟩ := X
  exact va_get (C := R_Mod) (T := F_Mod) (N := 33) (Ts := TT) hx hb (fun _ h => hT.use h) in_Mod hown hK hP 0 rfl rfl 28 (by decide) (hT.use q7_171) (fun _ h => h) rfl hdg kk
theorem uM_mod_oldEntries (X : FX p s m meth c cc nL rt R_Mod D (tyM ca) A) (hP : va_P D cls (wM ad ca g) H) (hD : va_D A (wM ad ca g)) (hS : va_S A s.heap H locs) {v : Int32} (e1 : setI g 13 v = g1) (hdg : decode cc pc = .ok (.putfield 123, 3)) (kk : ∀ (H1 : Heap) (locs1 : List Loc), va_P D cls (wM ad ca g1) H1 → va_D A (wM ad ca g1) → va_S A s.heap H1 locs1 → W p l e R s m args below meth c H1 locs1 0 0 Q (F0 m (pc + 3) ls rest)) : W p l e R s m args below meth c H locs 0 0 Q (F0 m pc ls (.int v :: .ref (ad 0) :: rest)) := by
  obtain ⟨hx, hb, -, -, -, hown, hT, hK, -⟩ := X
  subst e1
  exact va_put (ty := .int) (C := R_Mod) (T := F_Mod) (N := 33) (Ts := TT) hx hb (fun _ h => hT.use h) in_Mod ft_Mod ft_Mod_ok n_Mod hown hK hP hD hS 0 rfl rfl 28 (by decide) (hT.use q7_171) (fun _ h => h) rfl (by decide +kernel) rfl rfl (Nat.le_of_ble_eq_true rfl) hdg (fun H1 locs1 h1 h2 h3 => kk H1 locs1 h1 h2 h3)
theorem gM_mod_oldDirectory (X : FX p s m meth c cc nL rt R_Mod D (tyM ca) A) (hP : va_P D cls (wM ad ca g) H) (hdg : decode cc pc = .ok (.getfield 64, 3)) (kk : W p l e R s m args below meth c H locs 0 0 Q (F0 m (pc + 3) ls (.ref (ad 16) :: rest))) : W p l e R s m args below meth c H locs 0 0 Q (F0 m pc ls (.ref (ad 0) :: rest)) := by
  obtain ⟨hx, hb, -, -, -, hown, hT, hK, -⟩ := X
  exact va_get (C := R_Mod) (T := F_Mod) (N := 33) (Ts := TT) hx hb (fun _ h => hT.use h) in_Mod hown hK hP 0 rfl rfl 29 (by decide) (hT.use q7_172) (fun _ h => h) rfl hdg kk
theorem gM_mod_oldId (X : FX p s m meth c cc nL rt R_Mod D (tyM ca) A) (hP : va_P D cls (wM ad ca g) H) (hdg : decode cc pc = .ok (.getfield 67, 3)) (kk : W p l e R s m args below meth c H locs 0 0 Q (F0 m (pc + 3) ls (.ref (ad 17) :: rest))) : W p l e R s m args below meth c H locs 0 0 Q (F0 m pc ls (.ref (ad 0) :: rest)) := by
  obtain ⟨hx, hb, -, -, -, hown, hT, hK, -⟩ := X
  exact va_get (C := R_Mod) (T := F_Mod) (N := 33) (Ts := TT) hx hb (fun _ h => hT.use h) in_Mod hown hK hP 0 rfl rfl 30 (by decide) (hT.use q7_173) (fun _ h => h) rfl hdg kk
theorem gM_mod_oldLength (X : FX p s m meth c cc nL rt R_Mod D (tyM ca) A) (hP : va_P D cls (wM ad ca g) H) (hdg : decode cc pc = .ok (.getfield 70, 3)) (kk : W p l e R s m args below meth c H locs 0 0 Q (F0 m (pc + 3) ls (.ref (ad 18) :: rest))) : W p l e R s m args below meth c H locs 0 0 Q (F0 m pc ls (.ref (ad 0) :: rest)) := by
  obtain ⟨hx, hb, -, -, -, hown, hT, hK, -⟩ := X
  exact va_get (C := R_Mod) (T := F_Mod) (N := 33) (Ts := TT) hx hb (fun _ h => hT.use h) in_Mod hown hK hP 0 rfl rfl 31 (by decide) (hT.use q7_174) (fun _ h => h) rfl hdg kk
theorem gM_mod_oldName (X : FX p s m meth c cc nL rt R_Mod D (tyM ca) A) (hP : va_P D cls (wM ad ca g) H) (hdg : decode cc pc = .ok (.getfield 73, 3)) (kk : W p l e R s m args below meth c H locs 0 0 Q (F0 m (pc + 3) ls (.ref (ad 19) :: rest))) : W p l e R s m args below meth c H locs 0 0 Q (F0 m pc ls (.ref (ad 0) :: rest)) := by
  obtain ⟨hx, hb, -, -, -, hown, hT, hK, -⟩ := X
  exact va_get (C := R_Mod) (T := F_Mod) (N := 33) (Ts := TT) hx hb (fun _ h => hT.use h) in_Mod hown hK hP 0 rfl rfl 32 (by decide) (hT.use q7_175) (fun _ h => h) rfl hdg kk
theorem rM_0 (X : FX p s m meth c cc nL rt own D (tyM ca) A) (hP : va_P D cls (wM ad ca g) H) {i v : Int32} (e1 : rdA 2060 g 0 i = some v) (hdg : decode cc pc = .ok (.baload, 1)) (kk : W p l e R s m args below meth c H locs 0 0 Q (F0 m (pc + 1) ls (.int v :: rest))) : W p l e R s m args below meth c H locs 0 0 Q (F0 m pc ls (.int i :: .ref (ad 1) :: rest)) := by
  obtain ⟨hx, hb, -, -, -, hown, hT, hK, -⟩ := X
  obtain ⟨hin, rfl⟩ := rdA_some e1
  exact va_bald hx hb hK hP 1 0 rfl rfl hin hdg kk
theorem sM_0 (X : FX p s m meth c cc nL rt own D (tyM ca) A) (hP : va_P D cls (wM ad ca g) H) (hD : va_D A (wM ad ca g)) (hS : va_S A s.heap H locs) {i x : Int32} (e1 : wrA 2060 g 0 i (nby x) = some g1) (hdg : decode cc pc = .ok (.bastore, 1)) (kk : ∀ (H1 : Heap) (locs1 : List Loc), va_P D cls (wM ad ca g1) H1 → va_D A (wM ad ca g1) → va_S A s.heap H1 locs1 → W p l e R s m args below meth c H1 locs1 0 0 Q (F0 m (pc + 1) ls rest)) : W p l e R s m args below meth c H locs 0 0 Q (F0 m pc ls (.int x :: .int i :: .ref (ad 1) :: rest)) := by
  obtain ⟨hx, hb, -, -, -, hown, hT, hK, -⟩ := X
  obtain ⟨hin, rfl⟩ := wrA_some e1
  exact va_bast hx hb hK hP hD hS 1 0 rfl rfl hin hdg (fun H1 locs1 h1 h2 h3 => kk H1 locs1 h1 h2 h3)
theorem rM_1 (X : FX p s m meth c cc nL rt own D (tyM ca) A) (hP : va_P D cls (wM ad ca g) H) {i v : Int32} (e1 : rdA 2000 g 1 i = some v) (hdg : decode cc pc = .ok (.baload, 1)) (kk : W p l e R s m args below meth c H locs 0 0 Q (F0 m (pc + 1) ls (.int v :: rest))) : W p l e R s m args below meth c H locs 0 0 Q (F0 m pc ls (.int i :: .ref (ad 2) :: rest)) := by
  obtain ⟨hx, hb, -, -, -, hown, hT, hK, -⟩ := X
  obtain ⟨hin, rfl⟩ := rdA_some e1
  exact va_bald hx hb hK hP 2 1 rfl rfl hin hdg kk
theorem sM_1 (X : FX p s m meth c cc nL rt own D (tyM ca) A) (hP : va_P D cls (wM ad ca g) H) (hD : va_D A (wM ad ca g)) (hS : va_S A s.heap H locs) {i x : Int32} (e1 : wrA 2000 g 1 i (nby x) = some g1) (hdg : decode cc pc = .ok (.bastore, 1)) (kk : ∀ (H1 : Heap) (locs1 : List Loc), va_P D cls (wM ad ca g1) H1 → va_D A (wM ad ca g1) → va_S A s.heap H1 locs1 → W p l e R s m args below meth c H1 locs1 0 0 Q (F0 m (pc + 1) ls rest)) : W p l e R s m args below meth c H locs 0 0 Q (F0 m pc ls (.int x :: .int i :: .ref (ad 2) :: rest)) := by
  obtain ⟨hx, hb, -, -, -, hown, hT, hK, -⟩ := X
  obtain ⟨hin, rfl⟩ := wrA_some e1
  exact va_bast hx hb hK hP hD hS 2 1 rfl rfl hin hdg (fun H1 locs1 h1 h2 h3 => kk H1 locs1 h1 h2 h3)
theorem rM_2 (X : FX p s m meth c cc nL rt own D (tyM ca) A) (hP : va_P D cls (wM ad ca g) H) {i v : Int32} (e1 : rdA 753 g 2 i = some v) (hdg : decode cc pc = .ok (.iaload, 1)) (kk : W p l e R s m args below meth c H locs 0 0 Q (F0 m (pc + 1) ls (.int v :: rest))) : W p l e R s m args below meth c H locs 0 0 Q (F0 m pc ls (.int i :: .ref (ad 3) :: rest)) := by
  obtain ⟨hx, hb, -, -, -, hown, hT, hK, -⟩ := X
  obtain ⟨hin, rfl⟩ := rdA_some e1
  exact va_iald hx hb hK hP 3 2 rfl rfl hin hdg kk
theorem sM_2 (X : FX p s m meth c cc nL rt own D (tyM ca) A) (hP : va_P D cls (wM ad ca g) H) (hD : va_D A (wM ad ca g)) (hS : va_S A s.heap H locs) {i x : Int32} (e1 : wrA 753 g 2 i (x) = some g1) (hdg : decode cc pc = .ok (.iastore, 1)) (kk : ∀ (H1 : Heap) (locs1 : List Loc), va_P D cls (wM ad ca g1) H1 → va_D A (wM ad ca g1) → va_S A s.heap H1 locs1 → W p l e R s m args below meth c H1 locs1 0 0 Q (F0 m (pc + 1) ls rest)) : W p l e R s m args below meth c H locs 0 0 Q (F0 m pc ls (.int x :: .int i :: .ref (ad 3) :: rest)) := by
  obtain ⟨hx, hb, -, -, -, hown, hT, hK, -⟩ := X
  obtain ⟨hin, rfl⟩ := wrA_some e1
  exact va_iast hx hb hK hP hD hS 3 2 rfl rfl hin hdg (fun H1 locs1 h1 h2 h3 => kk H1 locs1 h1 h2 h3)
theorem rM_3 (X : FX p s m meth c cc nL rt own D (tyM ca) A) (hP : va_P D cls (wM ad ca g) H) {i v : Int32} (e1 : rdA 753 g 3 i = some v) (hdg : decode cc pc = .ok (.iaload, 1)) (kk : W p l e R s m args below meth c H locs 0 0 Q (F0 m (pc + 1) ls (.int v :: rest))) : W p l e R s m args below meth c H locs 0 0 Q (F0 m pc ls (.int i :: .ref (ad 4) :: rest)) := by
  obtain ⟨hx, hb, -, -, -, hown, hT, hK, -⟩ := X
  obtain ⟨hin, rfl⟩ := rdA_some e1
  exact va_iald hx hb hK hP 4 3 rfl rfl hin hdg kk
theorem sM_3 (X : FX p s m meth c cc nL rt own D (tyM ca) A) (hP : va_P D cls (wM ad ca g) H) (hD : va_D A (wM ad ca g)) (hS : va_S A s.heap H locs) {i x : Int32} (e1 : wrA 753 g 3 i (x) = some g1) (hdg : decode cc pc = .ok (.iastore, 1)) (kk : ∀ (H1 : Heap) (locs1 : List Loc), va_P D cls (wM ad ca g1) H1 → va_D A (wM ad ca g1) → va_S A s.heap H1 locs1 → W p l e R s m args below meth c H1 locs1 0 0 Q (F0 m (pc + 1) ls rest)) : W p l e R s m args below meth c H locs 0 0 Q (F0 m pc ls (.int x :: .int i :: .ref (ad 4) :: rest)) := by
  obtain ⟨hx, hb, -, -, -, hown, hT, hK, -⟩ := X
  obtain ⟨hin, rfl⟩ := wrA_some e1
  exact va_iast hx hb hK hP hD hS 4 3 rfl rfl hin hdg (fun H1 locs1 h1 h2 h3 => kk H1 locs1 h1 h2 h3)
theorem rM_4 (X : FX p s m meth c cc nL rt own D (tyM ca) A) (hP : va_P D cls (wM ad ca g) H) {i v : Int32} (e1 : rdA 753 g 4 i = some v) (hdg : decode cc pc = .ok (.iaload, 1)) (kk : W p l e R s m args below meth c H locs 0 0 Q (F0 m (pc + 1) ls (.int v :: rest))) : W p l e R s m args below meth c H locs 0 0 Q (F0 m pc ls (.int i :: .ref (ad 5) :: rest)) := by
  obtain ⟨hx, hb, -, -, -, hown, hT, hK, -⟩ := X
  obtain ⟨hin, rfl⟩ := rdA_some e1
  exact va_iald hx hb hK hP 5 4 rfl rfl hin hdg kk
theorem sM_4 (X : FX p s m meth c cc nL rt own D (tyM ca) A) (hP : va_P D cls (wM ad ca g) H) (hD : va_D A (wM ad ca g)) (hS : va_S A s.heap H locs) {i x : Int32} (e1 : wrA 753 g 4 i (x) = some g1) (hdg : decode cc pc = .ok (.iastore, 1)) (kk : ∀ (H1 : Heap) (locs1 : List Loc), va_P D cls (wM ad ca g1) H1 → va_D A (wM ad ca g1) → va_S A s.heap H1 locs1 → W p l e R s m args below meth c H1 locs1 0 0 Q (F0 m (pc + 1) ls rest)) : W p l e R s m args below meth c H locs 0 0 Q (F0 m pc ls (.int x :: .int i :: .ref (ad 5) :: rest)) := by
  obtain ⟨hx, hb, -, -, -, hown, hT, hK, -⟩ := X
  obtain ⟨hin, rfl⟩ := wrA_some e1
  exact va_iast hx hb hK hP hD hS 5 4 rfl rfl hin hdg (fun H1 locs1 h1 h2 h3 => kk H1 locs1 h1 h2 h3)
theorem rM_5 (X : FX p s m meth c cc nL rt own D (tyM ca) A) (hP : va_P D cls (wM ad ca g) H) {i v : Int32} (e1 : rdA 753 g 5 i = some v) (hdg : decode cc pc = .ok (.baload, 1)) (kk : W p l e R s m args below meth c H locs 0 0 Q (F0 m (pc + 1) ls (.int v :: rest))) : W p l e R s m args below meth c H locs 0 0 Q (F0 m pc ls (.int i :: .ref (ad 6) :: rest)) := by
  obtain ⟨hx, hb, -, -, -, hown, hT, hK, -⟩ := X
  obtain ⟨hin, rfl⟩ := rdA_some e1
  exact va_zald hx hb hK hP 6 5 rfl rfl hin hdg kk
theorem sM_5 (X : FX p s m meth c cc nL rt own D (tyM ca) A) (hP : va_P D cls (wM ad ca g) H) (hD : va_D A (wM ad ca g)) (hS : va_S A s.heap H locs) {i x : Int32} (e1 : wrA 753 g 5 i (nz x) = some g1) (hdg : decode cc pc = .ok (.bastore, 1)) (kk : ∀ (H1 : Heap) (locs1 : List Loc), va_P D cls (wM ad ca g1) H1 → va_D A (wM ad ca g1) → va_S A s.heap H1 locs1 → W p l e R s m args below meth c H1 locs1 0 0 Q (F0 m (pc + 1) ls rest)) : W p l e R s m args below meth c H locs 0 0 Q (F0 m pc ls (.int x :: .int i :: .ref (ad 6) :: rest)) := by
  obtain ⟨hx, hb, -, -, -, hown, hT, hK, -⟩ := X
  obtain ⟨hin, rfl⟩ := wrA_some e1
  exact va_zast hx hb hK hP hD hS 6 5 rfl rfl hin hdg (fun H1 locs1 h1 h2 h3 => kk H1 locs1 h1 h2 h3)
theorem rM_6 (X : FX p s m meth c cc nL rt own D (tyM ca) A) (hP : va_P D cls (wM ad ca g) H) {i v : Int32} (e1 : rdA 251 g 6 i = some v) (hdg : decode cc pc = .ok (.baload, 1)) (kk : W p l e R s m args below meth c H locs 0 0 Q (F0 m (pc + 1) ls (.int v :: rest))) : W p l e R s m args below meth c H locs 0 0 Q (F0 m pc ls (.int i :: .ref (ad 7) :: rest)) := by
  obtain ⟨hx, hb, -, -, -, hown, hT, hK, -⟩ := X
  obtain ⟨hin, rfl⟩ := rdA_some e1
  exact va_zald hx hb hK hP 7 6 rfl rfl hin hdg kk
theorem sM_6 (X : FX p s m meth c cc nL rt own D (tyM ca) A) (hP : va_P D cls (wM ad ca g) H) (hD : va_D A (wM ad ca g)) (hS : va_S A s.heap H locs) {i x : Int32} (e1 : wrA 251 g 6 i (nz x) = some g1) (hdg : decode cc pc = .ok (.bastore, 1)) (kk : ∀ (H1 : Heap) (locs1 : List Loc), va_P D cls (wM ad ca g1) H1 → va_D A (wM ad ca g1) → va_S A s.heap H1 locs1 → W p l e R s m args below meth c H1 locs1 0 0 Q (F0 m (pc + 1) ls rest)) : W p l e R s m args below meth c H locs 0 0 Q (F0 m pc ls (.int x :: .int i :: .ref (ad 7) :: rest)) := by
  obtain ⟨hx, hb, -, -, -, hown, hT, hK, -⟩ := X
  obtain ⟨hin, rfl⟩ := wrA_some e1
  exact va_zast hx hb hK hP hD hS 7 6 rfl rfl hin hdg (fun H1 locs1 h1 h2 h3 => kk H1 locs1 h1 h2 h3)
theorem rM_7 (X : FX p s m meth c cc nL rt own D (tyM ca) A) (hP : va_P D cls (wM ad ca g) H) {i v : Int32} (e1 : rdA 251 g 7 i = some v) (hdg : decode cc pc = .ok (.baload, 1)) (kk : W p l e R s m args below meth c H locs 0 0 Q (F0 m (pc + 1) ls (.int v :: rest))) : W p l e R s m args below meth c H locs 0 0 Q (F0 m pc ls (.int i :: .ref (ad 8) :: rest)) := by
  obtain ⟨hx, hb, -, -, -, hown, hT, hK, -⟩ := X
  obtain ⟨hin, rfl⟩ := rdA_some e1
  exact va_zald hx hb hK hP 8 7 rfl rfl hin hdg kk
theorem sM_7 (X : FX p s m meth c cc nL rt own D (tyM ca) A) (hP : va_P D cls (wM ad ca g) H) (hD : va_D A (wM ad ca g)) (hS : va_S A s.heap H locs) {i x : Int32} (e1 : wrA 251 g 7 i (nz x) = some g1) (hdg : decode cc pc = .ok (.bastore, 1)) (kk : ∀ (H1 : Heap) (locs1 : List Loc), va_P D cls (wM ad ca g1) H1 → va_D A (wM ad ca g1) → va_S A s.heap H1 locs1 → W p l e R s m args below meth c H1 locs1 0 0 Q (F0 m (pc + 1) ls rest)) : W p l e R s m args below meth c H locs 0 0 Q (F0 m pc ls (.int x :: .int i :: .ref (ad 8) :: rest)) := by
  obtain ⟨hx, hb, -, -, -, hown, hT, hK, -⟩ := X
  obtain ⟨hin, rfl⟩ := wrA_some e1
  exact va_zast hx hb hK hP hD hS 8 7 rfl rfl hin hdg (fun H1 locs1 h1 h2 h3 => kk H1 locs1 h1 h2 h3)
theorem rM_8 (X : FX p s m meth c cc nL rt own D (tyM ca) A) (hP : va_P D cls (wM ad ca g) H) {i v : Int32} (e1 : rdA 294423 g 8 i = some v) (hdg : decode cc pc = .ok (.iaload, 1)) (kk : W p l e R s m args below meth c H locs 0 0 Q (F0 m (pc + 1) ls (.int v :: rest))) : W p l e R s m args below meth c H locs 0 0 Q (F0 m pc ls (.int i :: .ref (ad 9) :: rest)) := by
  obtain ⟨hx, hb, -, -, -, hown, hT, hK, -⟩ := X
  obtain ⟨hin, rfl⟩ := rdA_some e1
  exact va_iald hx hb hK hP 9 8 rfl rfl hin hdg kk
theorem sM_8 (X : FX p s m meth c cc nL rt own D (tyM ca) A) (hP : va_P D cls (wM ad ca g) H) (hD : va_D A (wM ad ca g)) (hS : va_S A s.heap H locs) {i x : Int32} (e1 : wrA 294423 g 8 i (x) = some g1) (hdg : decode cc pc = .ok (.iastore, 1)) (kk : ∀ (H1 : Heap) (locs1 : List Loc), va_P D cls (wM ad ca g1) H1 → va_D A (wM ad ca g1) → va_S A s.heap H1 locs1 → W p l e R s m args below meth c H1 locs1 0 0 Q (F0 m (pc + 1) ls rest)) : W p l e R s m args below meth c H locs 0 0 Q (F0 m pc ls (.int x :: .int i :: .ref (ad 9) :: rest)) := by
  obtain ⟨hx, hb, -, -, -, hown, hT, hK, -⟩ := X
  obtain ⟨hin, rfl⟩ := wrA_some e1
  exact va_iast hx hb hK hP hD hS 9 8 rfl rfl hin hdg (fun H1 locs1 h1 h2 h3 => kk H1 locs1 h1 h2 h3)
theorem rM_9 (X : FX p s m meth c cc nL rt own D (tyM ca) A) (hP : va_P D cls (wM ad ca g) H) {i v : Int32} (e1 : rdA 1689600 g 9 i = some v) (hdg : decode cc pc = .ok (.baload, 1)) (kk : W p l e R s m args below meth c H locs 0 0 Q (F0 m (pc + 1) ls (.int v :: rest))) : W p l e R s m args below meth c H locs 0 0 Q (F0 m pc ls (.int i :: .ref (ad 10) :: rest)) := by
  obtain ⟨hx, hb, -, -, -, hown, hT, hK, -⟩ := X
  obtain ⟨hin, rfl⟩ := rdA_some e1
  exact va_bald hx hb hK hP 10 9 rfl rfl hin hdg kk
theorem sM_9 (X : FX p s m meth c cc nL rt own D (tyM ca) A) (hP : va_P D cls (wM ad ca g) H) (hD : va_D A (wM ad ca g)) (hS : va_S A s.heap H locs) {i x : Int32} (e1 : wrA 1689600 g 9 i (nby x) = some g1) (hdg : decode cc pc = .ok (.bastore, 1)) (kk : ∀ (H1 : Heap) (locs1 : List Loc), va_P D cls (wM ad ca g1) H1 → va_D A (wM ad ca g1) → va_S A s.heap H1 locs1 → W p l e R s m args below meth c H1 locs1 0 0 Q (F0 m (pc + 1) ls rest)) : W p l e R s m args below meth c H locs 0 0 Q (F0 m pc ls (.int x :: .int i :: .ref (ad 10) :: rest)) := by
  obtain ⟨hx, hb, -, -, -, hown, hT, hK, -⟩ := X
  obtain ⟨hin, rfl⟩ := wrA_some e1
  exact va_bast hx hb hK hP hD hS 10 9 rfl rfl hin hdg (fun H1 locs1 h1 h2 h3 => kk H1 locs1 h1 h2 h3)
theorem rM_10 (X : FX p s m meth c cc nL rt own D (tyM ca) A) (hP : va_P D cls (wM ad ca g) H) {i v : Int32} (e1 : rdA 6600 g 10 i = some v) (hdg : decode cc pc = .ok (.iaload, 1)) (kk : W p l e R s m args below meth c H locs 0 0 Q (F0 m (pc + 1) ls (.int v :: rest))) : W p l e R s m args below meth c H locs 0 0 Q (F0 m pc ls (.int i :: .ref (ad 11) :: rest)) := by
  obtain ⟨hx, hb, -, -, -, hown, hT, hK, -⟩ := X
  obtain ⟨hin, rfl⟩ := rdA_some e1
  exact va_iald hx hb hK hP 11 10 rfl rfl hin hdg kk
theorem sM_10 (X : FX p s m meth c cc nL rt own D (tyM ca) A) (hP : va_P D cls (wM ad ca g) H) (hD : va_D A (wM ad ca g)) (hS : va_S A s.heap H locs) {i x : Int32} (e1 : wrA 6600 g 10 i (x) = some g1) (hdg : decode cc pc = .ok (.iastore, 1)) (kk : ∀ (H1 : Heap) (locs1 : List Loc), va_P D cls (wM ad ca g1) H1 → va_D A (wM ad ca g1) → va_S A s.heap H1 locs1 → W p l e R s m args below meth c H1 locs1 0 0 Q (F0 m (pc + 1) ls rest)) : W p l e R s m args below meth c H locs 0 0 Q (F0 m pc ls (.int x :: .int i :: .ref (ad 11) :: rest)) := by
  obtain ⟨hx, hb, -, -, -, hown, hT, hK, -⟩ := X
  obtain ⟨hin, rfl⟩ := wrA_some e1
  exact va_iast hx hb hK hP hD hS 11 10 rfl rfl hin hdg (fun H1 locs1 h1 h2 h3 => kk H1 locs1 h1 h2 h3)
theorem rM_11 (X : FX p s m meth c cc nL rt own D (tyM ca) A) (hP : va_P D cls (wM ad ca g) H) {i v : Int32} (e1 : rdA 2400 g 11 i = some v) (hdg : decode cc pc = .ok (.iaload, 1)) (kk : W p l e R s m args below meth c H locs 0 0 Q (F0 m (pc + 1) ls (.int v :: rest))) : W p l e R s m args below meth c H locs 0 0 Q (F0 m pc ls (.int i :: .ref (ad 12) :: rest)) := by
  obtain ⟨hx, hb, -, -, -, hown, hT, hK, -⟩ := X
  obtain ⟨hin, rfl⟩ := rdA_some e1
  exact va_iald hx hb hK hP 12 11 rfl rfl hin hdg kk
theorem sM_11 (X : FX p s m meth c cc nL rt own D (tyM ca) A) (hP : va_P D cls (wM ad ca g) H) (hD : va_D A (wM ad ca g)) (hS : va_S A s.heap H locs) {i x : Int32} (e1 : wrA 2400 g 11 i (x) = some g1) (hdg : decode cc pc = .ok (.iastore, 1)) (kk : ∀ (H1 : Heap) (locs1 : List Loc), va_P D cls (wM ad ca g1) H1 → va_D A (wM ad ca g1) → va_S A s.heap H1 locs1 → W p l e R s m args below meth c H1 locs1 0 0 Q (F0 m (pc + 1) ls rest)) : W p l e R s m args below meth c H locs 0 0 Q (F0 m pc ls (.int x :: .int i :: .ref (ad 12) :: rest)) := by
  obtain ⟨hx, hb, -, -, -, hown, hT, hK, -⟩ := X
  obtain ⟨hin, rfl⟩ := wrA_some e1
  exact va_iast hx hb hK hP hD hS 12 11 rfl rfl hin hdg (fun H1 locs1 h1 h2 h3 => kk H1 locs1 h1 h2 h3)
theorem rM_12 (X : FX p s m meth c cc nL rt own D (tyM ca) A) (hP : va_P D cls (wM ad ca g) H) {i v : Int32} (e1 : rdA 2400 g 12 i = some v) (hdg : decode cc pc = .ok (.iaload, 1)) (kk : W p l e R s m args below meth c H locs 0 0 Q (F0 m (pc + 1) ls (.int v :: rest))) : W p l e R s m args below meth c H locs 0 0 Q (F0 m pc ls (.int i :: .ref (ad 13) :: rest)) := by
  obtain ⟨hx, hb, -, -, -, hown, hT, hK, -⟩ := X
  obtain ⟨hin, rfl⟩ := rdA_some e1
  exact va_iald hx hb hK hP 13 12 rfl rfl hin hdg kk
theorem sM_12 (X : FX p s m meth c cc nL rt own D (tyM ca) A) (hP : va_P D cls (wM ad ca g) H) (hD : va_D A (wM ad ca g)) (hS : va_S A s.heap H locs) {i x : Int32} (e1 : wrA 2400 g 12 i (x) = some g1) (hdg : decode cc pc = .ok (.iastore, 1)) (kk : ∀ (H1 : Heap) (locs1 : List Loc), va_P D cls (wM ad ca g1) H1 → va_D A (wM ad ca g1) → va_S A s.heap H1 locs1 → W p l e R s m args below meth c H1 locs1 0 0 Q (F0 m (pc + 1) ls rest)) : W p l e R s m args below meth c H locs 0 0 Q (F0 m pc ls (.int x :: .int i :: .ref (ad 13) :: rest)) := by
  obtain ⟨hx, hb, -, -, -, hown, hT, hK, -⟩ := X
  obtain ⟨hin, rfl⟩ := wrA_some e1
  exact va_iast hx hb hK hP hD hS 13 12 rfl rfl hin hdg (fun H1 locs1 h1 h2 h3 => kk H1 locs1 h1 h2 h3)
theorem rM_13 (X : FX p s m meth c cc nL rt own D (tyM ca) A) (hP : va_P D cls (wM ad ca g) H) {i v : Int32} (e1 : rdA 2400 g 13 i = some v) (hdg : decode cc pc = .ok (.iaload, 1)) (kk : W p l e R s m args below meth c H locs 0 0 Q (F0 m (pc + 1) ls (.int v :: rest))) : W p l e R s m args below meth c H locs 0 0 Q (F0 m pc ls (.int i :: .ref (ad 14) :: rest)) := by
  obtain ⟨hx, hb, -, -, -, hown, hT, hK, -⟩ := X
  obtain ⟨hin, rfl⟩ := rdA_some e1
  exact va_iald hx hb hK hP 14 13 rfl rfl hin hdg kk
theorem sM_13 (X : FX p s m meth c cc nL rt own D (tyM ca) A) (hP : va_P D cls (wM ad ca g) H) (hD : va_D A (wM ad ca g)) (hS : va_S A s.heap H locs) {i x : Int32} (e1 : wrA 2400 g 13 i (x) = some g1) (hdg : decode cc pc = .ok (.iastore, 1)) (kk : ∀ (H1 : Heap) (locs1 : List Loc), va_P D cls (wM ad ca g1) H1 → va_D A (wM ad ca g1) → va_S A s.heap H1 locs1 → W p l e R s m args below meth c H1 locs1 0 0 Q (F0 m (pc + 1) ls rest)) : W p l e R s m args below meth c H locs 0 0 Q (F0 m pc ls (.int x :: .int i :: .ref (ad 14) :: rest)) := by
  obtain ⟨hx, hb, -, -, -, hown, hT, hK, -⟩ := X
  obtain ⟨hin, rfl⟩ := wrA_some e1
  exact va_iast hx hb hK hP hD hS 14 13 rfl rfl hin hdg (fun H1 locs1 h1 h2 h3 => kk H1 locs1 h1 h2 h3)
theorem rM_14 (X : FX p s m meth c cc nL rt own D (tyM ca) A) (hP : va_P D cls (wM ad ca g) H) {i v : Int32} (e1 : rdA 48000 g 14 i = some v) (hdg : decode cc pc = .ok (.baload, 1)) (kk : W p l e R s m args below meth c H locs 0 0 Q (F0 m (pc + 1) ls (.int v :: rest))) : W p l e R s m args below meth c H locs 0 0 Q (F0 m pc ls (.int i :: .ref (ad 15) :: rest)) := by
  obtain ⟨hx, hb, -, -, -, hown, hT, hK, -⟩ := X
  obtain ⟨hin, rfl⟩ := rdA_some e1
  exact va_bald hx hb hK hP 15 14 rfl rfl hin hdg kk
theorem sM_14 (X : FX p s m meth c cc nL rt own D (tyM ca) A) (hP : va_P D cls (wM ad ca g) H) (hD : va_D A (wM ad ca g)) (hS : va_S A s.heap H locs) {i x : Int32} (e1 : wrA 48000 g 14 i (nby x) = some g1) (hdg : decode cc pc = .ok (.bastore, 1)) (kk : ∀ (H1 : Heap) (locs1 : List Loc), va_P D cls (wM ad ca g1) H1 → va_D A (wM ad ca g1) → va_S A s.heap H1 locs1 → W p l e R s m args below meth c H1 locs1 0 0 Q (F0 m (pc + 1) ls rest)) : W p l e R s m args below meth c H locs 0 0 Q (F0 m pc ls (.int x :: .int i :: .ref (ad 15) :: rest)) := by
  obtain ⟨hx, hb, -, -, -, hown, hT, hK, -⟩ := X
  obtain ⟨hin, rfl⟩ := wrA_some e1
  exact va_bast hx hb hK hP hD hS 15 14 rfl rfl hin hdg (fun H1 locs1 h1 h2 h3 => kk H1 locs1 h1 h2 h3)
theorem rM_15 (X : FX p s m meth c cc nL rt own D (tyM ca) A) (hP : va_P D cls (wM ad ca g) H) {i v : Int32} (e1 : rdA 2400 g 15 i = some v) (hdg : decode cc pc = .ok (.iaload, 1)) (kk : W p l e R s m args below meth c H locs 0 0 Q (F0 m (pc + 1) ls (.int v :: rest))) : W p l e R s m args below meth c H locs 0 0 Q (F0 m pc ls (.int i :: .ref (ad 16) :: rest)) := by
  obtain ⟨hx, hb, -, -, -, hown, hT, hK, -⟩ := X
  obtain ⟨hin, rfl⟩ := rdA_some e1
  exact va_iald hx hb hK hP 16 15 rfl rfl hin hdg kk
theorem sM_15 (X : FX p s m meth c cc nL rt own D (tyM ca) A) (hP : va_P D cls (wM ad ca g) H) (hD : va_D A (wM ad ca g)) (hS : va_S A s.heap H locs) {i x : Int32} (e1 : wrA 2400 g 15 i (x) = some g1) (hdg : decode cc pc = .ok (.iastore, 1)) (kk : ∀ (H1 : Heap) (locs1 : List Loc), va_P D cls (wM ad ca g1) H1 → va_D A (wM ad ca g1) → va_S A s.heap H1 locs1 → W p l e R s m args below meth c H1 locs1 0 0 Q (F0 m (pc + 1) ls rest)) : W p l e R s m args below meth c H locs 0 0 Q (F0 m pc ls (.int x :: .int i :: .ref (ad 16) :: rest)) := by
  obtain ⟨hx, hb, -, -, -, hown, hT, hK, -⟩ := X
  obtain ⟨hin, rfl⟩ := wrA_some e1
  exact va_iast hx hb hK hP hD hS 16 15 rfl rfl hin hdg (fun H1 locs1 h1 h2 h3 => kk H1 locs1 h1 h2 h3)
theorem rM_16 (X : FX p s m meth c cc nL rt own D (tyM ca) A) (hP : va_P D cls (wM ad ca g) H) {i v : Int32} (e1 : rdA 2400 g 16 i = some v) (hdg : decode cc pc = .ok (.iaload, 1)) (kk : W p l e R s m args below meth c H locs 0 0 Q (F0 m (pc + 1) ls (.int v :: rest))) : W p l e R s m args below meth c H locs 0 0 Q (F0 m pc ls (.int i :: .ref (ad 17) :: rest)) := by
  obtain ⟨hx, hb, -, -, -, hown, hT, hK, -⟩ := X
  obtain ⟨hin, rfl⟩ := rdA_some e1
  exact va_iald hx hb hK hP 17 16 rfl rfl hin hdg kk
theorem sM_16 (X : FX p s m meth c cc nL rt own D (tyM ca) A) (hP : va_P D cls (wM ad ca g) H) (hD : va_D A (wM ad ca g)) (hS : va_S A s.heap H locs) {i x : Int32} (e1 : wrA 2400 g 16 i (x) = some g1) (hdg : decode cc pc = .ok (.iastore, 1)) (kk : ∀ (H1 : Heap) (locs1 : List Loc), va_P D cls (wM ad ca g1) H1 → va_D A (wM ad ca g1) → va_S A s.heap H1 locs1 → W p l e R s m args below meth c H1 locs1 0 0 Q (F0 m (pc + 1) ls rest)) : W p l e R s m args below meth c H locs 0 0 Q (F0 m pc ls (.int x :: .int i :: .ref (ad 17) :: rest)) := by
  obtain ⟨hx, hb, -, -, -, hown, hT, hK, -⟩ := X
  obtain ⟨hin, rfl⟩ := wrA_some e1
  exact va_iast hx hb hK hP hD hS 17 16 rfl rfl hin hdg (fun H1 locs1 h1 h2 h3 => kk H1 locs1 h1 h2 h3)
theorem rM_17 (X : FX p s m meth c cc nL rt own D (tyM ca) A) (hP : va_P D cls (wM ad ca g) H) {i v : Int32} (e1 : rdA 2400 g 17 i = some v) (hdg : decode cc pc = .ok (.iaload, 1)) (kk : W p l e R s m args below meth c H locs 0 0 Q (F0 m (pc + 1) ls (.int v :: rest))) : W p l e R s m args below meth c H locs 0 0 Q (F0 m pc ls (.int i :: .ref (ad 18) :: rest)) := by
  obtain ⟨hx, hb, -, -, -, hown, hT, hK, -⟩ := X
  obtain ⟨hin, rfl⟩ := rdA_some e1
  exact va_iald hx hb hK hP 18 17 rfl rfl hin hdg kk
theorem sM_17 (X : FX p s m meth c cc nL rt own D (tyM ca) A) (hP : va_P D cls (wM ad ca g) H) (hD : va_D A (wM ad ca g)) (hS : va_S A s.heap H locs) {i x : Int32} (e1 : wrA 2400 g 17 i (x) = some g1) (hdg : decode cc pc = .ok (.iastore, 1)) (kk : ∀ (H1 : Heap) (locs1 : List Loc), va_P D cls (wM ad ca g1) H1 → va_D A (wM ad ca g1) → va_S A s.heap H1 locs1 → W p l e R s m args below meth c H1 locs1 0 0 Q (F0 m (pc + 1) ls rest)) : W p l e R s m args below meth c H locs 0 0 Q (F0 m pc ls (.int x :: .int i :: .ref (ad 18) :: rest)) := by
  obtain ⟨hx, hb, -, -, -, hown, hT, hK, -⟩ := X
  obtain ⟨hin, rfl⟩ := wrA_some e1
  exact va_iast hx hb hK hP hD hS 18 17 rfl rfl hin hdg (fun H1 locs1 h1 h2 h3 => kk H1 locs1 h1 h2 h3)
theorem rM_18 (X : FX p s m meth c cc nL rt own D (tyM ca) A) (hP : va_P D cls (wM ad ca g) H) {i v : Int32} (e1 : rdA 48000 g 18 i = some v) (hdg : decode cc pc = .ok (.baload, 1)) (kk : W p l e R s m args below meth c H locs 0 0 Q (F0 m (pc + 1) ls (.int v :: rest))) : W p l e R s m args below meth c H locs 0 0 Q (F0 m pc ls (.int i :: .ref (ad 19) :: rest)) := by
  obtain ⟨hx, hb, -, -, -, hown, hT, hK, -⟩ := X
  obtain ⟨hin, rfl⟩ := rdA_some e1
  exact va_bald hx hb hK hP 19 18 rfl rfl hin hdg kk
theorem sM_18 (X : FX p s m meth c cc nL rt own D (tyM ca) A) (hP : va_P D cls (wM ad ca g) H) (hD : va_D A (wM ad ca g)) (hS : va_S A s.heap H locs) {i x : Int32} (e1 : wrA 48000 g 18 i (nby x) = some g1) (hdg : decode cc pc = .ok (.bastore, 1)) (kk : ∀ (H1 : Heap) (locs1 : List Loc), va_P D cls (wM ad ca g1) H1 → va_D A (wM ad ca g1) → va_S A s.heap H1 locs1 → W p l e R s m args below meth c H1 locs1 0 0 Q (F0 m (pc + 1) ls rest)) : W p l e R s m args below meth c H locs 0 0 Q (F0 m pc ls (.int x :: .int i :: .ref (ad 19) :: rest)) := by
  obtain ⟨hx, hb, -, -, -, hown, hT, hK, -⟩ := X
  obtain ⟨hin, rfl⟩ := wrA_some e1
  exact va_bast hx hb hK hP hD hS 19 18 rfl rfl hin hdg (fun H1 locs1 h1 h2 h3 => kk H1 locs1 h1 h2 h3)
end CELM
