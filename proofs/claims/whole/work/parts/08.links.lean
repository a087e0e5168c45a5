theorem oi_m8 (x : Int32) : x + Int32.ofInt (-8) = x + (-8 : Int32) := congrArg (x + ·) (by decide)
theorem oi_m1 (x : Int32) : x + Int32.ofInt (-1) = x + (-1 : Int32) := congrArg (x + ·) (by decide)
theorem oi_1 (x : Int32) : x + Int32.ofInt (1) = x + (1 : Int32) := congrArg (x + ·) (by decide)
section CPY
variable {p : Program} {l : Launch} {e : Env} {R : Room} {s : State} {m : MethodId} {args : Array Value} {below : List Frame} {meth : Method} {c : Code} {H : Heap} {locs : List Loc} {Q : State → Prop}
variable {cc : ByteArray} {own : String} {nL : Nat} {D : va_G} {ad : Nat → Nat} {ca : Nat → ClassId} {A : Nat → Prop} {g g1 : St} {pc : Nat} {ls : Array Slot} {rest : List Value} {rt : Option FieldType}

theorem cpF_2_18 (X : FX p s m meth c cc nL rt own D (tyF ca) A) (hP : va_P D cls (wF ad ca g) H) (hD : va_D A (wF ad ca g)) (hS : va_S A s.heap H locs) (hls : nL = ls.size) {index : Nat} (hlink : (Cond.methodLink own index arraycopyName).before args s = true) {sp dp n : Int32} (e1 : cpy 6 64 g 2 sp 18 dp n = some g1) (hR : 1 ≤ R.frames ∧ (rest.map fun v => v.category).sum + (nativeFrameWords "java/lang/System" "arraycopy" 5 + 11) ≤ R.locals) (hdg : decode cc pc = .ok (.invokestatic index, 3))
    (kk : ∀ (H1 : Heap) (locs1 : List Loc), va_P D cls (wF ad ca g1) H1 → va_D A (wF ad ca g1) → va_S A s.heap H1 locs1 → W p l e R s m args below meth c H1 locs1 0 0 Q (F0 m (pc + 3) ls rest)) : W p l e R s m args below meth c H locs 0 0 Q (F0 m pc ls (.int n :: .int dp :: .ref (ad 29) :: .int sp :: .ref (ad 13) :: rest)) := by
  obtain ⟨hx, hb, hml, -, -, hown, hT, hK, -⟩ := X
  unfold cpy at e1
  split at e1
  · cases e1
  · rename_i hn
    cases e1
    exact va_copyi (ty := .int) hx hb (hml.trans hls) hown hlink (hT.use q3_35) (hT.use q3_34) (hT.use q1_23) hK hP hD hS 13 29 2 18 rfl rfl rfl rfl rfl (fun h => hn (Or.inl h)) (fun h => hn (Or.inr (Or.inl h))) (fun h => hn (Or.inr (Or.inr (Or.inl h)))) (Nat.not_lt.mp fun h => hn (Or.inr (Or.inr (Or.inr (Or.inl h))))) (Nat.not_lt.mp fun h => hn (Or.inr (Or.inr (Or.inr (Or.inr h))))) (fun _ _ => rfl) hR.1 hR.2 hdg (fun H1 locs1 h1 h2 h3 => kk H1 locs1 h1 h2 h3)
theorem cpF_3_18 (X : FX p s m meth c cc nL rt own D (tyF ca) A) (hP : va_P D cls (wF ad ca g) H) (hD : va_D A (wF ad ca g)) (hS : va_S A s.heap H locs) (hls : nL = ls.size) {index : Nat} (hlink : (Cond.methodLink own index arraycopyName).before args s = true) {sp dp n : Int32} (e1 : cpy 6 64 g 3 sp 18 dp n = some g1) (hR : 1 ≤ R.frames ∧ (rest.map fun v => v.category).sum + (nativeFrameWords "java/lang/System" "arraycopy" 5 + 11) ≤ R.locals) (hdg : decode cc pc = .ok (.invokestatic index, 3))
    (kk : ∀ (H1 : Heap) (locs1 : List Loc), va_P D cls (wF ad ca g1) H1 → va_D A (wF ad ca g1) → va_S A s.heap H1 locs1 → W p l e R s m args below meth c H1 locs1 0 0 Q (F0 m (pc + 3) ls rest)) : W p l e R s m args below meth c H locs 0 0 Q (F0 m pc ls (.int n :: .int dp :: .ref (ad 29) :: .int sp :: .ref (ad 14) :: rest)) := by
  obtain ⟨hx, hb, hml, -, -, hown, hT, hK, -⟩ := X
  unfold cpy at e1
  split at e1
  · cases e1
  · rename_i hn
    cases e1
    exact va_copyi (ty := .int) hx hb (hml.trans hls) hown hlink (hT.use q3_35) (hT.use q3_34) (hT.use q1_23) hK hP hD hS 14 29 3 18 rfl rfl rfl rfl rfl (fun h => hn (Or.inl h)) (fun h => hn (Or.inr (Or.inl h))) (fun h => hn (Or.inr (Or.inr (Or.inl h)))) (Nat.not_lt.mp fun h => hn (Or.inr (Or.inr (Or.inr (Or.inl h))))) (Nat.not_lt.mp fun h => hn (Or.inr (Or.inr (Or.inr (Or.inr h))))) (fun _ _ => rfl) hR.1 hR.2 hdg (fun H1 locs1 h1 h2 h3 => kk H1 locs1 h1 h2 h3)
theorem cpF_4_13 (X : FX p s m meth c cc nL rt own D (tyF ca) A) (hP : va_P D cls (wF ad ca g) H) (hD : va_D A (wF ad ca g)) (hS : va_S A s.heap H locs) (hls : nL = ls.size) {index : Nat} (hlink : (Cond.methodLink own index arraycopyName).before args s = true) {sp dp n : Int32} (e1 : cpy 135488 64 g 4 sp 13 dp n = some g1) (hR : 1 ≤ R.frames ∧ (rest.map fun v => v.category).sum + (nativeFrameWords "java/lang/System" "arraycopy" 5 + 11) ≤ R.locals) (hdg : decode cc pc = .ok (.invokestatic index, 3))
    (kk : ∀ (H1 : Heap) (locs1 : List Loc), va_P D cls (wF ad ca g1) H1 → va_D A (wF ad ca g1) → va_S A s.heap H1 locs1 → W p l e R s m args below meth c H1 locs1 0 0 Q (F0 m (pc + 3) ls rest)) : W p l e R s m args below meth c H locs 0 0 Q (F0 m pc ls (.int n :: .int dp :: .ref (ad 24) :: .int sp :: .ref (ad 15) :: rest)) := by
  obtain ⟨hx, hb, hml, -, -, hown, hT, hK, -⟩ := X
  unfold cpy at e1
  split at e1
  · cases e1
  · rename_i hn
    cases e1
    exact va_copyi (ty := .int) hx hb (hml.trans hls) hown hlink (hT.use q3_35) (hT.use q3_34) (hT.use q1_23) hK hP hD hS 15 24 4 13 rfl rfl rfl rfl rfl (fun h => hn (Or.inl h)) (fun h => hn (Or.inr (Or.inl h))) (fun h => hn (Or.inr (Or.inr (Or.inl h)))) (Nat.not_lt.mp fun h => hn (Or.inr (Or.inr (Or.inr (Or.inl h))))) (Nat.not_lt.mp fun h => hn (Or.inr (Or.inr (Or.inr (Or.inr h))))) (fun _ _ => rfl) hR.1 hR.2 hdg (fun H1 locs1 h1 h2 h3 => kk H1 locs1 h1 h2 h3)
theorem cpF_4_14 (X : FX p s m meth c cc nL rt own D (tyF ca) A) (hP : va_P D cls (wF ad ca g) H) (hD : va_D A (wF ad ca g)) (hS : va_S A s.heap H locs) (hls : nL = ls.size) {index : Nat} (hlink : (Cond.methodLink own index arraycopyName).before args s = true) {sp dp n : Int32} (e1 : cpy 135488 64 g 4 sp 14 dp n = some g1) (hR : 1 ≤ R.frames ∧ (rest.map fun v => v.category).sum + (nativeFrameWords "java/lang/System" "arraycopy" 5 + 11) ≤ R.locals) (hdg : decode cc pc = .ok (.invokestatic index, 3))
    (kk : ∀ (H1 : Heap) (locs1 : List Loc), va_P D cls (wF ad ca g1) H1 → va_D A (wF ad ca g1) → va_S A s.heap H1 locs1 → W p l e R s m args below meth c H1 locs1 0 0 Q (F0 m (pc + 3) ls rest)) : W p l e R s m args below meth c H locs 0 0 Q (F0 m pc ls (.int n :: .int dp :: .ref (ad 25) :: .int sp :: .ref (ad 15) :: rest)) := by
  obtain ⟨hx, hb, hml, -, -, hown, hT, hK, -⟩ := X
  unfold cpy at e1
  split at e1
  · cases e1
  · rename_i hn
    cases e1
    exact va_copyi (ty := .int) hx hb (hml.trans hls) hown hlink (hT.use q3_35) (hT.use q3_34) (hT.use q1_23) hK hP hD hS 15 25 4 14 rfl rfl rfl rfl rfl (fun h => hn (Or.inl h)) (fun h => hn (Or.inr (Or.inl h))) (fun h => hn (Or.inr (Or.inr (Or.inl h)))) (Nat.not_lt.mp fun h => hn (Or.inr (Or.inr (Or.inr (Or.inl h))))) (Nat.not_lt.mp fun h => hn (Or.inr (Or.inr (Or.inr (Or.inr h))))) (fun _ _ => rfl) hR.1 hR.2 hdg (fun H1 locs1 h1 h2 h3 => kk H1 locs1 h1 h2 h3)
theorem cpF_4_15 (X : FX p s m meth c cc nL rt own D (tyF ca) A) (hP : va_P D cls (wF ad ca g) H) (hD : va_D A (wF ad ca g)) (hS : va_S A s.heap H locs) (hls : nL = ls.size) {index : Nat} (hlink : (Cond.methodLink own index arraycopyName).before args s = true) {sp dp n : Int32} (e1 : cpy 135488 64 g 4 sp 15 dp n = some g1) (hR : 1 ≤ R.frames ∧ (rest.map fun v => v.category).sum + (nativeFrameWords "java/lang/System" "arraycopy" 5 + 11) ≤ R.locals) (hdg : decode cc pc = .ok (.invokestatic index, 3))
    (kk : ∀ (H1 : Heap) (locs1 : List Loc), va_P D cls (wF ad ca g1) H1 → va_D A (wF ad ca g1) → va_S A s.heap H1 locs1 → W p l e R s m args below meth c H1 locs1 0 0 Q (F0 m (pc + 3) ls rest)) : W p l e R s m args below meth c H locs 0 0 Q (F0 m pc ls (.int n :: .int dp :: .ref (ad 26) :: .int sp :: .ref (ad 15) :: rest)) := by
  obtain ⟨hx, hb, hml, -, -, hown, hT, hK, -⟩ := X
  unfold cpy at e1
  split at e1
  · cases e1
  · rename_i hn
    cases e1
    exact va_copyi (ty := .int) hx hb (hml.trans hls) hown hlink (hT.use q3_35) (hT.use q3_34) (hT.use q1_23) hK hP hD hS 15 26 4 15 rfl rfl rfl rfl rfl (fun h => hn (Or.inl h)) (fun h => hn (Or.inr (Or.inl h))) (fun h => hn (Or.inr (Or.inr (Or.inl h)))) (Nat.not_lt.mp fun h => hn (Or.inr (Or.inr (Or.inr (Or.inl h))))) (Nat.not_lt.mp fun h => hn (Or.inr (Or.inr (Or.inr (Or.inr h))))) (fun _ _ => rfl) hR.1 hR.2 hdg (fun H1 locs1 h1 h2 h3 => kk H1 locs1 h1 h2 h3)
theorem cpF_4_16 (X : FX p s m meth c cc nL rt own D (tyF ca) A) (hP : va_P D cls (wF ad ca g) H) (hD : va_D A (wF ad ca g)) (hS : va_S A s.heap H locs) (hls : nL = ls.size) {index : Nat} (hlink : (Cond.methodLink own index arraycopyName).before args s = true) {sp dp n : Int32} (e1 : cpy 135488 64 g 4 sp 16 dp n = some g1) (hR : 1 ≤ R.frames ∧ (rest.map fun v => v.category).sum + (nativeFrameWords "java/lang/System" "arraycopy" 5 + 11) ≤ R.locals) (hdg : decode cc pc = .ok (.invokestatic index, 3))
    (kk : ∀ (H1 : Heap) (locs1 : List Loc), va_P D cls (wF ad ca g1) H1 → va_D A (wF ad ca g1) → va_S A s.heap H1 locs1 → W p l e R s m args below meth c H1 locs1 0 0 Q (F0 m (pc + 3) ls rest)) : W p l e R s m args below meth c H locs 0 0 Q (F0 m pc ls (.int n :: .int dp :: .ref (ad 27) :: .int sp :: .ref (ad 15) :: rest)) := by
  obtain ⟨hx, hb, hml, -, -, hown, hT, hK, -⟩ := X
  unfold cpy at e1
  split at e1
  · cases e1
  · rename_i hn
    cases e1
    exact va_copyi (ty := .int) hx hb (hml.trans hls) hown hlink (hT.use q3_35) (hT.use q3_34) (hT.use q1_23) hK hP hD hS 15 27 4 16 rfl rfl rfl rfl rfl (fun h => hn (Or.inl h)) (fun h => hn (Or.inr (Or.inl h))) (fun h => hn (Or.inr (Or.inr (Or.inl h)))) (Nat.not_lt.mp fun h => hn (Or.inr (Or.inr (Or.inr (Or.inl h))))) (Nat.not_lt.mp fun h => hn (Or.inr (Or.inr (Or.inr (Or.inr h))))) (fun _ _ => rfl) hR.1 hR.2 hdg (fun H1 locs1 h1 h2 h3 => kk H1 locs1 h1 h2 h3)
theorem cpF_4_17 (X : FX p s m meth c cc nL rt own D (tyF ca) A) (hP : va_P D cls (wF ad ca g) H) (hD : va_D A (wF ad ca g)) (hS : va_S A s.heap H locs) (hls : nL = ls.size) {index : Nat} (hlink : (Cond.methodLink own index arraycopyName).before args s = true) {sp dp n : Int32} (e1 : cpy 135488 64 g 4 sp 17 dp n = some g1) (hR : 1 ≤ R.frames ∧ (rest.map fun v => v.category).sum + (nativeFrameWords "java/lang/System" "arraycopy" 5 + 11) ≤ R.locals) (hdg : decode cc pc = .ok (.invokestatic index, 3))
    (kk : ∀ (H1 : Heap) (locs1 : List Loc), va_P D cls (wF ad ca g1) H1 → va_D A (wF ad ca g1) → va_S A s.heap H1 locs1 → W p l e R s m args below meth c H1 locs1 0 0 Q (F0 m (pc + 3) ls rest)) : W p l e R s m args below meth c H locs 0 0 Q (F0 m pc ls (.int n :: .int dp :: .ref (ad 28) :: .int sp :: .ref (ad 15) :: rest)) := by
  obtain ⟨hx, hb, hml, -, -, hown, hT, hK, -⟩ := X
  unfold cpy at e1
  split at e1
  · cases e1
  · rename_i hn
    cases e1
    exact va_copyi (ty := .int) hx hb (hml.trans hls) hown hlink (hT.use q3_35) (hT.use q3_34) (hT.use q1_23) hK hP hD hS 15 28 4 17 rfl rfl rfl rfl rfl (fun h => hn (Or.inl h)) (fun h => hn (Or.inr (Or.inl h))) (fun h => hn (Or.inr (Or.inr (Or.inl h)))) (Nat.not_lt.mp fun h => hn (Or.inr (Or.inr (Or.inr (Or.inl h))))) (Nat.not_lt.mp fun h => hn (Or.inr (Or.inr (Or.inr (Or.inr h))))) (fun _ _ => rfl) hR.1 hR.2 hdg (fun H1 locs1 h1 h2 h3 => kk H1 locs1 h1 h2 h3)
theorem cpF_4_18 (X : FX p s m meth c cc nL rt own D (tyF ca) A) (hP : va_P D cls (wF ad ca g) H) (hD : va_D A (wF ad ca g)) (hS : va_S A s.heap H locs) (hls : nL = ls.size) {index : Nat} (hlink : (Cond.methodLink own index arraycopyName).before args s = true) {sp dp n : Int32} (e1 : cpy 135488 64 g 4 sp 18 dp n = some g1) (hR : 1 ≤ R.frames ∧ (rest.map fun v => v.category).sum + (nativeFrameWords "java/lang/System" "arraycopy" 5 + 11) ≤ R.locals) (hdg : decode cc pc = .ok (.invokestatic index, 3))
    (kk : ∀ (H1 : Heap) (locs1 : List Loc), va_P D cls (wF ad ca g1) H1 → va_D A (wF ad ca g1) → va_S A s.heap H1 locs1 → W p l e R s m args below meth c H1 locs1 0 0 Q (F0 m (pc + 3) ls rest)) : W p l e R s m args below meth c H locs 0 0 Q (F0 m pc ls (.int n :: .int dp :: .ref (ad 29) :: .int sp :: .ref (ad 15) :: rest)) := by
  obtain ⟨hx, hb, hml, -, -, hown, hT, hK, -⟩ := X
  unfold cpy at e1
  split at e1
  · cases e1
  · rename_i hn
    cases e1
    exact va_copyi (ty := .int) hx hb (hml.trans hls) hown hlink (hT.use q3_35) (hT.use q3_34) (hT.use q1_23) hK hP hD hS 15 29 4 18 rfl rfl rfl rfl rfl (fun h => hn (Or.inl h)) (fun h => hn (Or.inr (Or.inl h))) (fun h => hn (Or.inr (Or.inr (Or.inl h)))) (Nat.not_lt.mp fun h => hn (Or.inr (Or.inr (Or.inr (Or.inl h))))) (Nat.not_lt.mp fun h => hn (Or.inr (Or.inr (Or.inr (Or.inr h))))) (fun _ _ => rfl) hR.1 hR.2 hdg (fun H1 locs1 h1 h2 h3 => kk H1 locs1 h1 h2 h3)
theorem cpF_4_20 (X : FX p s m meth c cc nL rt own D (tyF ca) A) (hP : va_P D cls (wF ad ca g) H) (hD : va_D A (wF ad ca g)) (hS : va_S A s.heap H locs) (hls : nL = ls.size) {index : Nat} (hlink : (Cond.methodLink own index arraycopyName).before args s = true) {sp dp n : Int32} (e1 : cpy 135488 64 g 4 sp 20 dp n = some g1) (hR : 1 ≤ R.frames ∧ (rest.map fun v => v.category).sum + (nativeFrameWords "java/lang/System" "arraycopy" 5 + 11) ≤ R.locals) (hdg : decode cc pc = .ok (.invokestatic index, 3))
    (kk : ∀ (H1 : Heap) (locs1 : List Loc), va_P D cls (wF ad ca g1) H1 → va_D A (wF ad ca g1) → va_S A s.heap H1 locs1 → W p l e R s m args below meth c H1 locs1 0 0 Q (F0 m (pc + 3) ls rest)) : W p l e R s m args below meth c H locs 0 0 Q (F0 m pc ls (.int n :: .int dp :: .ref (ad 31) :: .int sp :: .ref (ad 15) :: rest)) := by
  obtain ⟨hx, hb, hml, -, -, hown, hT, hK, -⟩ := X
  unfold cpy at e1
  split at e1
  · cases e1
  · rename_i hn
    cases e1
    exact va_copyi (ty := .int) hx hb (hml.trans hls) hown hlink (hT.use q3_35) (hT.use q3_34) (hT.use q1_23) hK hP hD hS 15 31 4 20 rfl rfl rfl rfl rfl (fun h => hn (Or.inl h)) (fun h => hn (Or.inr (Or.inl h))) (fun h => hn (Or.inr (Or.inr (Or.inl h)))) (Nat.not_lt.mp fun h => hn (Or.inr (Or.inr (Or.inr (Or.inl h))))) (Nat.not_lt.mp fun h => hn (Or.inr (Or.inr (Or.inr (Or.inr h))))) (fun _ _ => rfl) hR.1 hR.2 hdg (fun H1 locs1 h1 h2 h3 => kk H1 locs1 h1 h2 h3)
theorem cpF_4_21 (X : FX p s m meth c cc nL rt own D (tyF ca) A) (hP : va_P D cls (wF ad ca g) H) (hD : va_D A (wF ad ca g)) (hS : va_S A s.heap H locs) (hls : nL = ls.size) {index : Nat} (hlink : (Cond.methodLink own index arraycopyName).before args s = true) {sp dp n : Int32} (e1 : cpy 135488 64 g 4 sp 21 dp n = some g1) (hR : 1 ≤ R.frames ∧ (rest.map fun v => v.category).sum + (nativeFrameWords "java/lang/System" "arraycopy" 5 + 11) ≤ R.locals) (hdg : decode cc pc = .ok (.invokestatic index, 3))
    (kk : ∀ (H1 : Heap) (locs1 : List Loc), va_P D cls (wF ad ca g1) H1 → va_D A (wF ad ca g1) → va_S A s.heap H1 locs1 → W p l e R s m args below meth c H1 locs1 0 0 Q (F0 m (pc + 3) ls rest)) : W p l e R s m args below meth c H locs 0 0 Q (F0 m pc ls (.int n :: .int dp :: .ref (ad 32) :: .int sp :: .ref (ad 15) :: rest)) := by
  obtain ⟨hx, hb, hml, -, -, hown, hT, hK, -⟩ := X
  unfold cpy at e1
  split at e1
  · cases e1
  · rename_i hn
    cases e1
    exact va_copyi (ty := .int) hx hb (hml.trans hls) hown hlink (hT.use q3_35) (hT.use q3_34) (hT.use q1_23) hK hP hD hS 15 32 4 21 rfl rfl rfl rfl rfl (fun h => hn (Or.inl h)) (fun h => hn (Or.inr (Or.inl h))) (fun h => hn (Or.inr (Or.inr (Or.inl h)))) (Nat.not_lt.mp fun h => hn (Or.inr (Or.inr (Or.inr (Or.inl h))))) (Nat.not_lt.mp fun h => hn (Or.inr (Or.inr (Or.inr (Or.inr h))))) (fun _ _ => rfl) hR.1 hR.2 hdg (fun H1 locs1 h1 h2 h3 => kk H1 locs1 h1 h2 h3)
theorem cpF_4_26 (X : FX p s m meth c cc nL rt own D (tyF ca) A) (hP : va_P D cls (wF ad ca g) H) (hD : va_D A (wF ad ca g)) (hS : va_S A s.heap H locs) (hls : nL = ls.size) {index : Nat} (hlink : (Cond.methodLink own index arraycopyName).before args s = true) {sp dp n : Int32} (e1 : cpy 135488 64 g 4 sp 26 dp n = some g1) (hR : 1 ≤ R.frames ∧ (rest.map fun v => v.category).sum + (nativeFrameWords "java/lang/System" "arraycopy" 5 + 11) ≤ R.locals) (hdg : decode cc pc = .ok (.invokestatic index, 3))
    (kk : ∀ (H1 : Heap) (locs1 : List Loc), va_P D cls (wF ad ca g1) H1 → va_D A (wF ad ca g1) → va_S A s.heap H1 locs1 → W p l e R s m args below meth c H1 locs1 0 0 Q (F0 m (pc + 3) ls rest)) : W p l e R s m args below meth c H locs 0 0 Q (F0 m pc ls (.int n :: .int dp :: .ref (ad 37) :: .int sp :: .ref (ad 15) :: rest)) := by
  obtain ⟨hx, hb, hml, -, -, hown, hT, hK, -⟩ := X
  unfold cpy at e1
  split at e1
  · cases e1
  · rename_i hn
    cases e1
    exact va_copyi (ty := .int) hx hb (hml.trans hls) hown hlink (hT.use q3_35) (hT.use q3_34) (hT.use q1_23) hK hP hD hS 15 37 4 26 rfl rfl rfl rfl rfl (fun h => hn (Or.inl h)) (fun h => hn (Or.inr (Or.inl h))) (fun h => hn (Or.inr (Or.inr (Or.inl h)))) (Nat.not_lt.mp fun h => hn (Or.inr (Or.inr (Or.inr (Or.inl h))))) (Nat.not_lt.mp fun h => hn (Or.inr (Or.inr (Or.inr (Or.inr h))))) (fun _ _ => rfl) hR.1 hR.2 hdg (fun H1 locs1 h1 h2 h3 => kk H1 locs1 h1 h2 h3)
theorem cpF_6_7 (X : FX p s m meth c cc nL rt own D (tyF ca) A) (hP : va_P D cls (wF ad ca g) H) (hD : va_D A (wF ad ca g)) (hS : va_S A s.heap H locs) (hls : nL = ls.size) {index : Nat} (hlink : (Cond.methodLink own index arraycopyName).before args s = true) {sp dp n : Int32} (e1 : cpy 2048 2048 g 6 sp 7 dp n = some g1) (hR : 1 ≤ R.frames ∧ (rest.map fun v => v.category).sum + (nativeFrameWords "java/lang/System" "arraycopy" 5 + 11) ≤ R.locals) (hdg : decode cc pc = .ok (.invokestatic index, 3))
    (kk : ∀ (H1 : Heap) (locs1 : List Loc), va_P D cls (wF ad ca g1) H1 → va_D A (wF ad ca g1) → va_S A s.heap H1 locs1 → W p l e R s m args below meth c H1 locs1 0 0 Q (F0 m (pc + 3) ls rest)) : W p l e R s m args below meth c H locs 0 0 Q (F0 m pc ls (.int n :: .int dp :: .ref (ad 18) :: .int sp :: .ref (ad 17) :: rest)) := by
  obtain ⟨hx, hb, hml, -, -, hown, hT, hK, -⟩ := X
  unfold cpy at e1
  split at e1
  · cases e1
  · rename_i hn
    cases e1
    exact va_copyi (ty := .int) hx hb (hml.trans hls) hown hlink (hT.use q3_35) (hT.use q3_34) (hT.use q1_23) hK hP hD hS 17 18 6 7 rfl rfl rfl rfl rfl (fun h => hn (Or.inl h)) (fun h => hn (Or.inr (Or.inl h))) (fun h => hn (Or.inr (Or.inr (Or.inl h)))) (Nat.not_lt.mp fun h => hn (Or.inr (Or.inr (Or.inr (Or.inl h))))) (Nat.not_lt.mp fun h => hn (Or.inr (Or.inr (Or.inr (Or.inr h))))) (fun _ _ => rfl) hR.1 hR.2 hdg (fun H1 locs1 h1 h2 h3 => kk H1 locs1 h1 h2 h3)
theorem cpF_6_22 (X : FX p s m meth c cc nL rt own D (tyF ca) A) (hP : va_P D cls (wF ad ca g) H) (hD : va_D A (wF ad ca g)) (hS : va_S A s.heap H locs) (hls : nL = ls.size) {index : Nat} (hlink : (Cond.methodLink own index arraycopyName).before args s = true) {sp dp n : Int32} (e1 : cpy 2048 2176 g 6 sp 22 dp n = some g1) (hR : 1 ≤ R.frames ∧ (rest.map fun v => v.category).sum + (nativeFrameWords "java/lang/System" "arraycopy" 5 + 11) ≤ R.locals) (hdg : decode cc pc = .ok (.invokestatic index, 3))
    (kk : ∀ (H1 : Heap) (locs1 : List Loc), va_P D cls (wF ad ca g1) H1 → va_D A (wF ad ca g1) → va_S A s.heap H1 locs1 → W p l e R s m args below meth c H1 locs1 0 0 Q (F0 m (pc + 3) ls rest)) : W p l e R s m args below meth c H locs 0 0 Q (F0 m pc ls (.int n :: .int dp :: .ref (ad 33) :: .int sp :: .ref (ad 17) :: rest)) := by
  obtain ⟨hx, hb, hml, -, -, hown, hT, hK, -⟩ := X
  unfold cpy at e1
  split at e1
  · cases e1
  · rename_i hn
    cases e1
    exact va_copyi (ty := .int) hx hb (hml.trans hls) hown hlink (hT.use q3_35) (hT.use q3_34) (hT.use q1_23) hK hP hD hS 17 33 6 22 rfl rfl rfl rfl rfl (fun h => hn (Or.inl h)) (fun h => hn (Or.inr (Or.inl h))) (fun h => hn (Or.inr (Or.inr (Or.inl h)))) (Nat.not_lt.mp fun h => hn (Or.inr (Or.inr (Or.inr (Or.inl h))))) (Nat.not_lt.mp fun h => hn (Or.inr (Or.inr (Or.inr (Or.inr h))))) (fun _ _ => rfl) hR.1 hR.2 hdg (fun H1 locs1 h1 h2 h3 => kk H1 locs1 h1 h2 h3)
theorem cpF_13_4 (X : FX p s m meth c cc nL rt own D (tyF ca) A) (hP : va_P D cls (wF ad ca g) H) (hD : va_D A (wF ad ca g)) (hS : va_S A s.heap H locs) (hls : nL = ls.size) {index : Nat} (hlink : (Cond.methodLink own index arraycopyName).before args s = true) {sp dp n : Int32} (e1 : cpy 64 135488 g 13 sp 4 dp n = some g1) (hR : 1 ≤ R.frames ∧ (rest.map fun v => v.category).sum + (nativeFrameWords "java/lang/System" "arraycopy" 5 + 11) ≤ R.locals) (hdg : decode cc pc = .ok (.invokestatic index, 3))
    (kk : ∀ (H1 : Heap) (locs1 : List Loc), va_P D cls (wF ad ca g1) H1 → va_D A (wF ad ca g1) → va_S A s.heap H1 locs1 → W p l e R s m args below meth c H1 locs1 0 0 Q (F0 m (pc + 3) ls rest)) : W p l e R s m args below meth c H locs 0 0 Q (F0 m pc ls (.int n :: .int dp :: .ref (ad 15) :: .int sp :: .ref (ad 24) :: rest)) := by
  obtain ⟨hx, hb, hml, -, -, hown, hT, hK, -⟩ := X
  unfold cpy at e1
  split at e1
  · cases e1
  · rename_i hn
    cases e1
    exact va_copyi (ty := .int) hx hb (hml.trans hls) hown hlink (hT.use q3_35) (hT.use q3_34) (hT.use q1_23) hK hP hD hS 24 15 13 4 rfl rfl rfl rfl rfl (fun h => hn (Or.inl h)) (fun h => hn (Or.inr (Or.inl h))) (fun h => hn (Or.inr (Or.inr (Or.inl h)))) (Nat.not_lt.mp fun h => hn (Or.inr (Or.inr (Or.inr (Or.inl h))))) (Nat.not_lt.mp fun h => hn (Or.inr (Or.inr (Or.inr (Or.inr h))))) (fun _ _ => rfl) hR.1 hR.2 hdg (fun H1 locs1 h1 h2 h3 => kk H1 locs1 h1 h2 h3)
theorem cpF_13_16 (X : FX p s m meth c cc nL rt own D (tyF ca) A) (hP : va_P D cls (wF ad ca g) H) (hD : va_D A (wF ad ca g)) (hS : va_S A s.heap H locs) (hls : nL = ls.size) {index : Nat} (hlink : (Cond.methodLink own index arraycopyName).before args s = true) {sp dp n : Int32} (e1 : cpy 64 64 g 13 sp 16 dp n = some g1) (hR : 1 ≤ R.frames ∧ (rest.map fun v => v.category).sum + (nativeFrameWords "java/lang/System" "arraycopy" 5 + 11) ≤ R.locals) (hdg : decode cc pc = .ok (.invokestatic index, 3))
    (kk : ∀ (H1 : Heap) (locs1 : List Loc), va_P D cls (wF ad ca g1) H1 → va_D A (wF ad ca g1) → va_S A s.heap H1 locs1 → W p l e R s m args below meth c H1 locs1 0 0 Q (F0 m (pc + 3) ls rest)) : W p l e R s m args below meth c H locs 0 0 Q (F0 m pc ls (.int n :: .int dp :: .ref (ad 27) :: .int sp :: .ref (ad 24) :: rest)) := by
  obtain ⟨hx, hb, hml, -, -, hown, hT, hK, -⟩ := X
  unfold cpy at e1
  split at e1
  · cases e1
  · rename_i hn
    cases e1
    exact va_copyi (ty := .int) hx hb (hml.trans hls) hown hlink (hT.use q3_35) (hT.use q3_34) (hT.use q1_23) hK hP hD hS 24 27 13 16 rfl rfl rfl rfl rfl (fun h => hn (Or.inl h)) (fun h => hn (Or.inr (Or.inl h))) (fun h => hn (Or.inr (Or.inr (Or.inl h)))) (Nat.not_lt.mp fun h => hn (Or.inr (Or.inr (Or.inr (Or.inl h))))) (Nat.not_lt.mp fun h => hn (Or.inr (Or.inr (Or.inr (Or.inr h))))) (fun _ _ => rfl) hR.1 hR.2 hdg (fun H1 locs1 h1 h2 h3 => kk H1 locs1 h1 h2 h3)
theorem cpF_14_4 (X : FX p s m meth c cc nL rt own D (tyF ca) A) (hP : va_P D cls (wF ad ca g) H) (hD : va_D A (wF ad ca g)) (hS : va_S A s.heap H locs) (hls : nL = ls.size) {index : Nat} (hlink : (Cond.methodLink own index arraycopyName).before args s = true) {sp dp n : Int32} (e1 : cpy 64 135488 g 14 sp 4 dp n = some g1) (hR : 1 ≤ R.frames ∧ (rest.map fun v => v.category).sum + (nativeFrameWords "java/lang/System" "arraycopy" 5 + 11) ≤ R.locals) (hdg : decode cc pc = .ok (.invokestatic index, 3))
    (kk : ∀ (H1 : Heap) (locs1 : List Loc), va_P D cls (wF ad ca g1) H1 → va_D A (wF ad ca g1) → va_S A s.heap H1 locs1 → W p l e R s m args below meth c H1 locs1 0 0 Q (F0 m (pc + 3) ls rest)) : W p l e R s m args below meth c H locs 0 0 Q (F0 m pc ls (.int n :: .int dp :: .ref (ad 15) :: .int sp :: .ref (ad 25) :: rest)) := by
  obtain ⟨hx, hb, hml, -, -, hown, hT, hK, -⟩ := X
  unfold cpy at e1
  split at e1
  · cases e1
  · rename_i hn
    cases e1
    exact va_copyi (ty := .int) hx hb (hml.trans hls) hown hlink (hT.use q3_35) (hT.use q3_34) (hT.use q1_23) hK hP hD hS 25 15 14 4 rfl rfl rfl rfl rfl (fun h => hn (Or.inl h)) (fun h => hn (Or.inr (Or.inl h))) (fun h => hn (Or.inr (Or.inr (Or.inl h)))) (Nat.not_lt.mp fun h => hn (Or.inr (Or.inr (Or.inr (Or.inl h))))) (Nat.not_lt.mp fun h => hn (Or.inr (Or.inr (Or.inr (Or.inr h))))) (fun _ _ => rfl) hR.1 hR.2 hdg (fun H1 locs1 h1 h2 h3 => kk H1 locs1 h1 h2 h3)
theorem cpF_15_4 (X : FX p s m meth c cc nL rt own D (tyF ca) A) (hP : va_P D cls (wF ad ca g) H) (hD : va_D A (wF ad ca g)) (hS : va_S A s.heap H locs) (hls : nL = ls.size) {index : Nat} (hlink : (Cond.methodLink own index arraycopyName).before args s = true) {sp dp n : Int32} (e1 : cpy 64 135488 g 15 sp 4 dp n = some g1) (hR : 1 ≤ R.frames ∧ (rest.map fun v => v.category).sum + (nativeFrameWords "java/lang/System" "arraycopy" 5 + 11) ≤ R.locals) (hdg : decode cc pc = .ok (.invokestatic index, 3))
    (kk : ∀ (H1 : Heap) (locs1 : List Loc), va_P D cls (wF ad ca g1) H1 → va_D A (wF ad ca g1) → va_S A s.heap H1 locs1 → W p l e R s m args below meth c H1 locs1 0 0 Q (F0 m (pc + 3) ls rest)) : W p l e R s m args below meth c H locs 0 0 Q (F0 m pc ls (.int n :: .int dp :: .ref (ad 15) :: .int sp :: .ref (ad 26) :: rest)) := by
  obtain ⟨hx, hb, hml, -, -, hown, hT, hK, -⟩ := X
  unfold cpy at e1
  split at e1
  · cases e1
  · rename_i hn
    cases e1
    exact va_copyi (ty := .int) hx hb (hml.trans hls) hown hlink (hT.use q3_35) (hT.use q3_34) (hT.use q1_23) hK hP hD hS 26 15 15 4 rfl rfl rfl rfl rfl (fun h => hn (Or.inl h)) (fun h => hn (Or.inr (Or.inl h))) (fun h => hn (Or.inr (Or.inr (Or.inl h)))) (Nat.not_lt.mp fun h => hn (Or.inr (Or.inr (Or.inr (Or.inl h))))) (Nat.not_lt.mp fun h => hn (Or.inr (Or.inr (Or.inr (Or.inr h))))) (fun _ _ => rfl) hR.1 hR.2 hdg (fun H1 locs1 h1 h2 h3 => kk H1 locs1 h1 h2 h3)
theorem cpF_16_4 (X : FX p s m meth c cc nL rt own D (tyF ca) A) (hP : va_P D cls (wF ad ca g) H) (hD : va_D A (wF ad ca g)) (hS : va_S A s.heap H locs) (hls : nL = ls.size) {index : Nat} (hlink : (Cond.methodLink own index arraycopyName).before args s = true) {sp dp n : Int32} (e1 : cpy 64 135488 g 16 sp 4 dp n = some g1) (hR : 1 ≤ R.frames ∧ (rest.map fun v => v.category).sum + (nativeFrameWords "java/lang/System" "arraycopy" 5 + 11) ≤ R.locals) (hdg : decode cc pc = .ok (.invokestatic index, 3))
    (kk : ∀ (H1 : Heap) (locs1 : List Loc), va_P D cls (wF ad ca g1) H1 → va_D A (wF ad ca g1) → va_S A s.heap H1 locs1 → W p l e R s m args below meth c H1 locs1 0 0 Q (F0 m (pc + 3) ls rest)) : W p l e R s m args below meth c H locs 0 0 Q (F0 m pc ls (.int n :: .int dp :: .ref (ad 15) :: .int sp :: .ref (ad 27) :: rest)) := by
  obtain ⟨hx, hb, hml, -, -, hown, hT, hK, -⟩ := X
  unfold cpy at e1
  split at e1
  · cases e1
  · rename_i hn
    cases e1
    exact va_copyi (ty := .int) hx hb (hml.trans hls) hown hlink (hT.use q3_35) (hT.use q3_34) (hT.use q1_23) hK hP hD hS 27 15 16 4 rfl rfl rfl rfl rfl (fun h => hn (Or.inl h)) (fun h => hn (Or.inr (Or.inl h))) (fun h => hn (Or.inr (Or.inr (Or.inl h)))) (Nat.not_lt.mp fun h => hn (Or.inr (Or.inr (Or.inr (Or.inl h))))) (Nat.not_lt.mp fun h => hn (Or.inr (Or.inr (Or.inr (Or.inr h))))) (fun _ _ => rfl) hR.1 hR.2 hdg (fun H1 locs1 h1 h2 h3 => kk H1 locs1 h1 h2 h3)
theorem cpF_17_4 (X : FX p s m meth c cc nL rt own D (tyF ca) A) (hP : va_P D cls (wF ad ca g) H) (hD : va_D A (wF ad ca g)) (hS : va_S A s.heap H locs) (hls : nL = ls.size) {index : Nat} (hlink : (Cond.methodLink own index arraycopyName).before args s = true) {sp dp n : Int32} (e1 : cpy 64 135488 g 17 sp 4 dp n = some g1) (hR : 1 ≤ R.frames ∧ (rest.map fun v => v.category).sum + (nativeFrameWords "java/lang/System" "arraycopy" 5 + 11) ≤ R.locals) (hdg : decode cc pc = .ok (.invokestatic index, 3))
    (kk : ∀ (H1 : Heap) (locs1 : List Loc), va_P D cls (wF ad ca g1) H1 → va_D A (wF ad ca g1) → va_S A s.heap H1 locs1 → W p l e R s m args below meth c H1 locs1 0 0 Q (F0 m (pc + 3) ls rest)) : W p l e R s m args below meth c H locs 0 0 Q (F0 m pc ls (.int n :: .int dp :: .ref (ad 15) :: .int sp :: .ref (ad 28) :: rest)) := by
  obtain ⟨hx, hb, hml, -, -, hown, hT, hK, -⟩ := X
  unfold cpy at e1
  split at e1
  · cases e1
  · rename_i hn
    cases e1
    exact va_copyi (ty := .int) hx hb (hml.trans hls) hown hlink (hT.use q3_35) (hT.use q3_34) (hT.use q1_23) hK hP hD hS 28 15 17 4 rfl rfl rfl rfl rfl (fun h => hn (Or.inl h)) (fun h => hn (Or.inr (Or.inl h))) (fun h => hn (Or.inr (Or.inr (Or.inl h)))) (Nat.not_lt.mp fun h => hn (Or.inr (Or.inr (Or.inr (Or.inl h))))) (Nat.not_lt.mp fun h => hn (Or.inr (Or.inr (Or.inr (Or.inr h))))) (fun _ _ => rfl) hR.1 hR.2 hdg (fun H1 locs1 h1 h2 h3 => kk H1 locs1 h1 h2 h3)
theorem cpF_18_4 (X : FX p s m meth c cc nL rt own D (tyF ca) A) (hP : va_P D cls (wF ad ca g) H) (hD : va_D A (wF ad ca g)) (hS : va_S A s.heap H locs) (hls : nL = ls.size) {index : Nat} (hlink : (Cond.methodLink own index arraycopyName).before args s = true) {sp dp n : Int32} (e1 : cpy 64 135488 g 18 sp 4 dp n = some g1) (hR : 1 ≤ R.frames ∧ (rest.map fun v => v.category).sum + (nativeFrameWords "java/lang/System" "arraycopy" 5 + 11) ≤ R.locals) (hdg : decode cc pc = .ok (.invokestatic index, 3))
    (kk : ∀ (H1 : Heap) (locs1 : List Loc), va_P D cls (wF ad ca g1) H1 → va_D A (wF ad ca g1) → va_S A s.heap H1 locs1 → W p l e R s m args below meth c H1 locs1 0 0 Q (F0 m (pc + 3) ls rest)) : W p l e R s m args below meth c H locs 0 0 Q (F0 m pc ls (.int n :: .int dp :: .ref (ad 15) :: .int sp :: .ref (ad 29) :: rest)) := by
  obtain ⟨hx, hb, hml, -, -, hown, hT, hK, -⟩ := X
  unfold cpy at e1
  split at e1
  · cases e1
  · rename_i hn
    cases e1
    exact va_copyi (ty := .int) hx hb (hml.trans hls) hown hlink (hT.use q3_35) (hT.use q3_34) (hT.use q1_23) hK hP hD hS 29 15 18 4 rfl rfl rfl rfl rfl (fun h => hn (Or.inl h)) (fun h => hn (Or.inr (Or.inl h))) (fun h => hn (Or.inr (Or.inr (Or.inl h)))) (Nat.not_lt.mp fun h => hn (Or.inr (Or.inr (Or.inr (Or.inl h))))) (Nat.not_lt.mp fun h => hn (Or.inr (Or.inr (Or.inr (Or.inr h))))) (fun _ _ => rfl) hR.1 hR.2 hdg (fun H1 locs1 h1 h2 h3 => kk H1 locs1 h1 h2 h3)
theorem cpF_20_4 (X : FX p s m meth c cc nL rt own D (tyF ca) A) (hP : va_P D cls (wF ad ca g) H) (hD : va_D A (wF ad ca g)) (hS : va_S A s.heap H locs) (hls : nL = ls.size) {index : Nat} (hlink : (Cond.methodLink own index arraycopyName).before args s = true) {sp dp n : Int32} (e1 : cpy 64 135488 g 20 sp 4 dp n = some g1) (hR : 1 ≤ R.frames ∧ (rest.map fun v => v.category).sum + (nativeFrameWords "java/lang/System" "arraycopy" 5 + 11) ≤ R.locals) (hdg : decode cc pc = .ok (.invokestatic index, 3))
    (kk : ∀ (H1 : Heap) (locs1 : List Loc), va_P D cls (wF ad ca g1) H1 → va_D A (wF ad ca g1) → va_S A s.heap H1 locs1 → W p l e R s m args below meth c H1 locs1 0 0 Q (F0 m (pc + 3) ls rest)) : W p l e R s m args below meth c H locs 0 0 Q (F0 m pc ls (.int n :: .int dp :: .ref (ad 15) :: .int sp :: .ref (ad 31) :: rest)) := by
  obtain ⟨hx, hb, hml, -, -, hown, hT, hK, -⟩ := X
  unfold cpy at e1
  split at e1
  · cases e1
  · rename_i hn
    cases e1
    exact va_copyi (ty := .int) hx hb (hml.trans hls) hown hlink (hT.use q3_35) (hT.use q3_34) (hT.use q1_23) hK hP hD hS 31 15 20 4 rfl rfl rfl rfl rfl (fun h => hn (Or.inl h)) (fun h => hn (Or.inr (Or.inl h))) (fun h => hn (Or.inr (Or.inr (Or.inl h)))) (Nat.not_lt.mp fun h => hn (Or.inr (Or.inr (Or.inr (Or.inl h))))) (Nat.not_lt.mp fun h => hn (Or.inr (Or.inr (Or.inr (Or.inr h))))) (fun _ _ => rfl) hR.1 hR.2 hdg (fun H1 locs1 h1 h2 h3 => kk H1 locs1 h1 h2 h3)
theorem cpF_21_4 (X : FX p s m meth c cc nL rt own D (tyF ca) A) (hP : va_P D cls (wF ad ca g) H) (hD : va_D A (wF ad ca g)) (hS : va_S A s.heap H locs) (hls : nL = ls.size) {index : Nat} (hlink : (Cond.methodLink own index arraycopyName).before args s = true) {sp dp n : Int32} (e1 : cpy 64 135488 g 21 sp 4 dp n = some g1) (hR : 1 ≤ R.frames ∧ (rest.map fun v => v.category).sum + (nativeFrameWords "java/lang/System" "arraycopy" 5 + 11) ≤ R.locals) (hdg : decode cc pc = .ok (.invokestatic index, 3))
    (kk : ∀ (H1 : Heap) (locs1 : List Loc), va_P D cls (wF ad ca g1) H1 → va_D A (wF ad ca g1) → va_S A s.heap H1 locs1 → W p l e R s m args below meth c H1 locs1 0 0 Q (F0 m (pc + 3) ls rest)) : W p l e R s m args below meth c H locs 0 0 Q (F0 m pc ls (.int n :: .int dp :: .ref (ad 15) :: .int sp :: .ref (ad 32) :: rest)) := by
  obtain ⟨hx, hb, hml, -, -, hown, hT, hK, -⟩ := X
  unfold cpy at e1
  split at e1
  · cases e1
  · rename_i hn
    cases e1
    exact va_copyi (ty := .int) hx hb (hml.trans hls) hown hlink (hT.use q3_35) (hT.use q3_34) (hT.use q1_23) hK hP hD hS 32 15 21 4 rfl rfl rfl rfl rfl (fun h => hn (Or.inl h)) (fun h => hn (Or.inr (Or.inl h))) (fun h => hn (Or.inr (Or.inr (Or.inl h)))) (Nat.not_lt.mp fun h => hn (Or.inr (Or.inr (Or.inr (Or.inl h))))) (Nat.not_lt.mp fun h => hn (Or.inr (Or.inr (Or.inr (Or.inr h))))) (fun _ _ => rfl) hR.1 hR.2 hdg (fun H1 locs1 h1 h2 h3 => kk H1 locs1 h1 h2 h3)
theorem cpF_22_4 (X : FX p s m meth c cc nL rt own D (tyF ca) A) (hP : va_P D cls (wF ad ca g) H) (hD : va_D A (wF ad ca g)) (hS : va_S A s.heap H locs) (hls : nL = ls.size) {index : Nat} (hlink : (Cond.methodLink own index arraycopyName).before args s = true) {sp dp n : Int32} (e1 : cpy 2176 135488 g 22 sp 4 dp n = some g1) (hR : 1 ≤ R.frames ∧ (rest.map fun v => v.category).sum + (nativeFrameWords "java/lang/System" "arraycopy" 5 + 11) ≤ R.locals) (hdg : decode cc pc = .ok (.invokestatic index, 3))
    (kk : ∀ (H1 : Heap) (locs1 : List Loc), va_P D cls (wF ad ca g1) H1 → va_D A (wF ad ca g1) → va_S A s.heap H1 locs1 → W p l e R s m args below meth c H1 locs1 0 0 Q (F0 m (pc + 3) ls rest)) : W p l e R s m args below meth c H locs 0 0 Q (F0 m pc ls (.int n :: .int dp :: .ref (ad 15) :: .int sp :: .ref (ad 33) :: rest)) := by
  obtain ⟨hx, hb, hml, -, -, hown, hT, hK, -⟩ := X
  unfold cpy at e1
  split at e1
  · cases e1
  · rename_i hn
    cases e1
    exact va_copyi (ty := .int) hx hb (hml.trans hls) hown hlink (hT.use q3_35) (hT.use q3_34) (hT.use q1_23) hK hP hD hS 33 15 22 4 rfl rfl rfl rfl rfl (fun h => hn (Or.inl h)) (fun h => hn (Or.inr (Or.inl h))) (fun h => hn (Or.inr (Or.inr (Or.inl h)))) (Nat.not_lt.mp fun h => hn (Or.inr (Or.inr (Or.inr (Or.inl h))))) (Nat.not_lt.mp fun h => hn (Or.inr (Or.inr (Or.inr (Or.inr h))))) (fun _ _ => rfl) hR.1 hR.2 hdg (fun H1 locs1 h1 h2 h3 => kk H1 locs1 h1 h2 h3)
end CPY
theorem math_max : Cond.code Lib.Math.max.name Lib.Math.max.code 2 (some .int) ∈ TT := (show prog_19_method_65_code = Lib.Math.max.code by decide +kernel) ▸ q2_191
theorem math_min : Cond.code Lib.Math.min.name Lib.Math.min.code 2 (some .int) ∈ TT := (show prog_19_method_69_code = Lib.Math.min.code by decide +kernel) ▸ q2_194
theorem kn_Chk_136 : kN "FlashFiles$Checkpoints" 136 "FlashFiles" ⟨"FlashFiles", "beginOfPack", "(I)I"⟩ prog_1_method_43_code 1 (some .int) 1 := ⟨by decide +kernel, q4_130, q4_131, q1_1, q4_132⟩
theorem kn_Chk_176 : kN "FlashFiles$Checkpoints" 176 "FlashFiles" ⟨"FlashFiles", "segmentOf", "(I)I"⟩ prog_1_method_41_code 1 (some .int) 1 := ⟨by decide +kernel, q7_7, q4_20, q1_1, q4_21⟩
theorem kn_Chk_197 : kN "FlashFiles$Checkpoints" 197 "FlashFiles" ⟨"FlashFiles", "pointersFrom", "(I)I"⟩ prog_1_method_44_code 1 (some .int) 1 := ⟨by decide +kernel, q7_27, q4_177, q1_1, q4_178⟩
theorem kn_Chk_200 : kN "FlashFiles$Checkpoints" 200 "FlashFiles" ⟨"FlashFiles", "pointersIn", "(II)I"⟩ prog_1_method_45_code 2 (some .int) 2 := ⟨by decide +kernel, q7_28, q4_180, q1_1, q4_181⟩
theorem kn_Cle_67 : kN "FlashFiles$Cleaner" 67 "FlashFiles" ⟨"FlashFiles", "segmentOf", "(I)I"⟩ prog_1_method_41_code 1 (some .int) 1 := ⟨by decide +kernel, q4_174, q4_20, q1_1, q4_21⟩
theorem kn_Cle_83 : kN "FlashFiles$Cleaner" 83 "FlashFiles" ⟨"FlashFiles", "pointersFrom", "(I)I"⟩ prog_1_method_44_code 1 (some .int) 1 := ⟨by decide +kernel, q4_176, q4_177, q1_1, q4_178⟩
theorem kn_Cle_86 : kN "FlashFiles$Cleaner" 86 "FlashFiles" ⟨"FlashFiles", "pointersIn", "(II)I"⟩ prog_1_method_45_code 2 (some .int) 2 := ⟨by decide +kernel, q4_179, q4_180, q1_1, q4_181⟩
theorem kn_Fil_108 : kN "FlashFiles$Files" 108 "FlashFiles" ⟨"FlashFiles", "blocksBegun", "(I)I"⟩ prog_1_method_46_code 1 (some .int) 1 := ⟨by decide +kernel, q6_122, q4_95, q1_1, q4_96⟩
theorem kn_Fil_128 : kN "FlashFiles$Files" 128 "FlashFiles" ⟨"FlashFiles", "pointersFrom", "(I)I"⟩ prog_1_method_44_code 1 (some .int) 1 := ⟨by decide +kernel, q5_174, q4_177, q1_1, q4_178⟩
theorem kn_Fil_131 : kN "FlashFiles$Files" 131 "FlashFiles" ⟨"FlashFiles", "pointersIn", "(II)I"⟩ prog_1_method_45_code 2 (some .int) 2 := ⟨by decide +kernel, q5_175, q4_180, q1_1, q4_181⟩
theorem kn_Fil_46 : kN "FlashFiles$Files" 46 "FlashFiles" ⟨"FlashFiles", "putByte", "([IIII)V"⟩ prog_1_method_49_code 6 none 4 := ⟨by decide +kernel, q6_18, q5_11, q1_1, q5_12⟩
theorem kn_Fil_85 : kN "FlashFiles$Files" 85 "FlashFiles" ⟨"FlashFiles", "getByte", "([III)I"⟩ prog_1_method_48_code 3 (some .int) 3 := ⟨by decide +kernel, q6_92, q6_93, q1_1, q6_94⟩
theorem kn_Ins_109 : kN "FlashFiles$Inspector" 109 "FlashFiles" ⟨"FlashFiles", "pointersFrom", "(I)I"⟩ prog_1_method_44_code 1 (some .int) 1 := ⟨by decide +kernel, q7_80, q4_177, q1_1, q4_178⟩
theorem kn_Ins_112 : kN "FlashFiles$Inspector" 112 "FlashFiles" ⟨"FlashFiles", "pointersIn", "(II)I"⟩ prog_1_method_45_code 2 (some .int) 2 := ⟨by decide +kernel, q7_81, q4_180, q1_1, q4_181⟩
theorem kn_Ins_131 : kN "FlashFiles$Inspector" 131 "FlashFiles" ⟨"FlashFiles", "hashOf", "([II)I"⟩ prog_1_method_47_code 4 (some .int) 2 := ⟨by decide +kernel, q7_95, q5_28, q1_1, q5_29⟩
theorem kn_Ins_136 : kN "FlashFiles$Inspector" 136 "FlashFiles" ⟨"FlashFiles", "blocksBegun", "(I)I"⟩ prog_1_method_46_code 1 (some .int) 1 := ⟨by decide +kernel, q7_101, q4_95, q1_1, q4_96⟩
theorem kn_Ins_142 : kN "FlashFiles$Inspector" 142 "FlashFiles" ⟨"FlashFiles", "firstOf", "(I)I"⟩ prog_1_method_42_code 1 (some .int) 1 := ⟨by decide +kernel, q7_115, q4_27, q1_1, q4_28⟩
theorem kn_Ins_96 : kN "FlashFiles$Inspector" 96 "FlashFiles" ⟨"FlashFiles", "segmentOf", "(I)I"⟩ prog_1_method_41_code 1 (some .int) 1 := ⟨by decide +kernel, q7_71, q4_20, q1_1, q4_21⟩
theorem kn_Log_64 : kN "FlashFiles$Log" 64 "FlashFiles" ⟨"FlashFiles", "segmentOf", "(I)I"⟩ prog_1_method_41_code 1 (some .int) 1 := ⟨by decide +kernel, q4_19, q4_20, q1_1, q4_21⟩
theorem kn_Log_78 : kN "FlashFiles$Log" 78 "FlashFiles" ⟨"FlashFiles", "firstOf", "(I)I"⟩ prog_1_method_42_code 1 (some .int) 1 := ⟨by decide +kernel, q4_26, q4_27, q1_1, q4_28⟩
theorem kn_Row_33 : kN "FlashFiles$Row" 33 "FlashFiles" ⟨"FlashFiles", "putByte", "([IIII)V"⟩ prog_1_method_49_code 6 none 4 := ⟨by decide +kernel, q5_10, q5_11, q1_1, q5_12⟩
theorem kn_Tre_128 : kN "FlashFiles$Tree" 128 "FlashFiles" ⟨"FlashFiles", "getByte", "([III)I"⟩ prog_1_method_48_code 3 (some .int) 3 := ⟨by decide +kernel, q6_176, q6_93, q1_1, q6_94⟩
theorem kn_Tre_48 : kN "FlashFiles$Tree" 48 "FlashFiles" ⟨"FlashFiles", "blocksBegun", "(I)I"⟩ prog_1_method_46_code 1 (some .int) 1 := ⟨by decide +kernel, q4_94, q4_95, q1_1, q4_96⟩
theorem kn_Tre_94 : kN "FlashFiles$Tree" 94 "FlashFiles" ⟨"FlashFiles", "hashOf", "([II)I"⟩ prog_1_method_47_code 4 (some .int) 2 := ⟨by decide +kernel, q5_27, q5_28, q1_1, q5_29⟩
theorem ks_Arr_13 : kS "java/util/Arrays" 13 ⟨"java/util/Arrays", "rangeCheck", "(III)V"⟩ prog_28_method_30_code 3 none 3 := ⟨by decide +kernel, q2_198, q2_199, q1_17, q2_200⟩
theorem ks_Chk_56 : kS "FlashFiles$Checkpoints" 56 ⟨"java/util/Arrays", "fill", "([II)V"⟩ prog_28_method_103_code 4 none 2 := ⟨by decide +kernel, q3_199, q3_200, q1_17, q3_201⟩
theorem ks_Dev_39 : kS "FlashFiles$Device" 39 ⟨"java/util/Arrays", "fill", "([IIII)V"⟩ prog_28_method_104_code 5 none 4 := ⟨by decide +kernel, q2_195, q2_196, q1_17, q2_197⟩
theorem ks_Fil_167 : kS "FlashFiles$Files" 167 ⟨"java/util/Arrays", "fill", "([II)V"⟩ prog_28_method_103_code 4 none 2 := ⟨by decide +kernel, q6_16, q3_200, q1_17, q3_201⟩
theorem ks_Ins_37 : kS "FlashFiles$Inspector" 37 ⟨"java/util/Arrays", "fill", "([II)V"⟩ prog_28_method_103_code 4 none 2 := ⟨by decide +kernel, q7_56, q3_200, q1_17, q3_201⟩
theorem ks_Log_33 : kS "FlashFiles$Log" 33 ⟨"java/util/Arrays", "fill", "([II)V"⟩ prog_28_method_103_code 4 none 2 := ⟨by decide +kernel, q3_221, q3_200, q1_17, q3_201⟩
theorem ks_Mod_101 : kS "FlashFilesModel" 101 ⟨"FlashFilesModel", "nodesFor", "(I)I"⟩ prog_12_method_11_code 2 (some .int) 1 := ⟨by decide +kernel, q8_53, q8_54, q1_11, q8_55⟩
theorem ks_Mod_144 : kS "FlashFilesModel" 144 ⟨"FlashFilesModel", "in", "(III)Z"⟩ prog_12_method_4_code 3 (some .boolean) 3 := ⟨by decide +kernel, q8_11, q8_12, q1_11, q8_13⟩
theorem ks_Mod_161 : kS "FlashFilesModel" 161 ⟨"FlashFilesModel", "isId", "(I)Z"⟩ prog_12_method_22_code 1 (some .boolean) 1 := ⟨by decide +kernel, q8_80, q8_81, q1_11, q8_82⟩
theorem ks_Mod_82 : kS "FlashFilesModel" 82 ⟨"FlashFilesModel", "at", "(III)I"⟩ prog_12_method_5_code 3 (some .int) 3 := ⟨by decide +kernel, q8_30, q8_31, q1_11, q8_32⟩
theorem ks_Row_23 : kS "FlashFiles$Row" 23 ⟨"java/util/Arrays", "fill", "([II)V"⟩ prog_28_method_103_code 4 none 2 := ⟨by decide +kernel, q5_5, q3_200, q1_17, q3_201⟩
theorem ks_Tab_28 : kS "FlashFiles$Table" 28 ⟨"java/util/Arrays", "fill", "([II)V"⟩ prog_28_method_103_code 4 none 2 := ⟨by decide +kernel, q3_211, q3_200, q1_17, q3_201⟩
theorem ks_Tab_37 : kS "FlashFiles$Table" 37 ⟨"java/util/Arrays", "fill", "([IIII)V"⟩ prog_28_method_104_code 5 none 4 := ⟨by decide +kernel, q7_20, q2_196, q1_17, q2_197⟩
theorem ks_Tre_73 : kS "FlashFiles$Tree" 73 ⟨"java/util/Arrays", "fill", "([II)V"⟩ prog_28_method_103_code 4 none 2 := ⟨by decide +kernel, q4_46, q3_200, q1_17, q3_201⟩
theorem kv_Chk_101 : kV "FlashFiles$Checkpoints" 101 "FlashFiles$Table" ⟨"FlashFiles$Table", "settle", "()V"⟩ prog_9_method_9_code 2 none 0 := ⟨by decide +kernel, q4_138, q3_213, q3_214, q1_4, q3_215⟩
theorem kv_Chk_104 : kV "FlashFiles$Checkpoints" 104 "FlashFiles$Log" ⟨"FlashFiles$Log", "freeSegments", "()I"⟩ prog_7_method_4_code 1 (some .int) 0 := ⟨by decide +kernel, q4_139, q4_140, q4_141, q1_5, q4_142⟩
theorem kv_Chk_107 : kV "FlashFiles$Checkpoints" 107 "FlashFiles$Checkpoints" ⟨"FlashFiles$Checkpoints", "mustBeFree", "()I"⟩ prog_2_method_11_code 2 (some .int) 0 := ⟨by decide +kernel, q4_143, q4_145, qs1_9, q1_8, q4_146⟩
theorem kv_Chk_110 : kV "FlashFiles$Checkpoints" 110 "FlashFiles$Cleaner" ⟨"FlashFiles$Cleaner", "emptySegments", "(II)Z"⟩ prog_3_method_2_code 7 (some .boolean) 2 := ⟨by decide +kernel, q4_148, q4_149, q4_150, q1_9, q4_151⟩
theorem kv_Chk_121 : kV "FlashFiles$Checkpoints" 121 "FlashFiles$Checkpoints" ⟨"FlashFiles$Checkpoints", "fillPack", "()V"⟩ prog_2_method_16_code 2 none 0 := ⟨by decide +kernel, q4_105, q4_107, qs1_7, q1_8, q4_108⟩
theorem kv_Chk_124 : kV "FlashFiles$Checkpoints" 124 "FlashFiles$Checkpoints" ⟨"FlashFiles$Checkpoints", "storeBlocks", "(I)V"⟩ prog_2_method_15_code 4 none 1 := ⟨by decide +kernel, q4_126, q4_128, qs1_8, q1_8, q4_129⟩
theorem kv_Chk_127 : kV "FlashFiles$Checkpoints" 127 "FlashFiles$Log" ⟨"FlashFiles$Log", "serial", "()I"⟩ prog_7_method_6_code 1 (some .int) 0 := ⟨by decide +kernel, q4_109, q4_110, q4_111, q1_5, q4_112⟩
theorem kv_Chk_130 : kV "FlashFiles$Checkpoints" 130 "FlashFiles$Log" ⟨"FlashFiles$Log", "setSerial", "(I)V"⟩ prog_7_method_8_code 2 none 1 := ⟨by decide +kernel, q4_134, q4_135, q4_136, q1_5, q4_137⟩
theorem kv_Chk_140 : kV "FlashFiles$Checkpoints" 140 "FlashFiles$Device" ⟨"FlashFiles$Device", "erase", "(II)V"⟩ prog_4_method_7_code 4 none 2 := ⟨by decide +kernel, q4_133, q2_186, q2_187, q1_3, q2_188⟩
theorem kv_Chk_144 : kV "FlashFiles$Checkpoints" 144 "FlashFiles$Log" ⟨"FlashFiles$Log", "nodeEnd", "()I"⟩ prog_7_method_5_code 1 (some .int) 0 := ⟨by decide +kernel, q4_113, q4_114, q4_115, q1_5, q4_116⟩
theorem kv_Chk_147 : kV "FlashFiles$Checkpoints" 147 "FlashFiles$Log" ⟨"FlashFiles$Log", "segments", "()I"⟩ prog_7_method_3_code 1 (some .int) 0 := ⟨by decide +kernel, q4_117, q4_118, q4_119, q1_5, q4_120⟩
theorem kv_Chk_150 : kV "FlashFiles$Checkpoints" 150 "FlashFiles$Log" ⟨"FlashFiles$Log", "isDead", "(I)Z"⟩ prog_7_method_14_code 2 (some .boolean) 1 := ⟨by decide +kernel, q4_121, q4_4, q4_5, q1_5, q4_6⟩
theorem kv_Chk_154 : kV "FlashFiles$Checkpoints" 154 "FlashFiles$Table" ⟨"FlashFiles$Table", "copyInto", "([I)V"⟩ prog_9_method_11_code 2 none 1 := ⟨by decide +kernel, q4_122, q4_123, q4_124, q1_4, q4_125⟩
theorem kv_Chk_158 : kV "FlashFiles$Checkpoints" 158 "FlashFiles$Checkpoints" ⟨"FlashFiles$Checkpoints", "wholeSerial", "(I)I"⟩ prog_2_method_17_code 4 (some .int) 1 := ⟨by decide +kernel, q6_234, q6_235, q6_236, q1_8, q6_237⟩
theorem kv_Chk_161 : kV "FlashFiles$Checkpoints" 161 "FlashFiles$Table" ⟨"FlashFiles$Table", "setPlace", "(II)V"⟩ prog_9_method_3_code 3 none 2 := ⟨by decide +kernel, q6_238, q4_69, q4_70, q1_4, q4_71⟩
theorem kv_Chk_164 : kV "FlashFiles$Checkpoints" 164 "FlashFiles$Checkpoints" ⟨"FlashFiles$Checkpoints", "findMarks", "(I)I"⟩ prog_2_method_20_code 6 (some .int) 1 := ⟨by decide +kernel, q6_239, q7_1, qs4_4, q1_8, q7_2⟩
theorem kv_Chk_167 : kV "FlashFiles$Checkpoints" 167 "FlashFiles$Checkpoints" ⟨"FlashFiles$Checkpoints", "bringForward", "(I)V"⟩ prog_2_method_21_code 4 none 1 := ⟨by decide +kernel, q7_8, q7_10, qs4_6, q1_8, q7_11⟩
theorem kv_Chk_170 : kV "FlashFiles$Checkpoints" 170 "FlashFiles$Checkpoints" ⟨"FlashFiles$Checkpoints", "claimAll", "()V"⟩ prog_2_method_22_code 5 none 0 := ⟨by decide +kernel, q7_12, q7_14, qs4_7, q1_8, q7_15⟩
theorem kv_Chk_173 : kV "FlashFiles$Checkpoints" 173 "FlashFiles$Log" ⟨"FlashFiles$Log", "setFree", "(I)V"⟩ prog_7_method_15_code 2 none 1 := ⟨by decide +kernel, q7_33, q4_23, q4_24, q1_5, q4_25⟩
theorem kv_Chk_179 : kV "FlashFiles$Checkpoints" 179 "FlashFiles$Checkpoints" ⟨"FlashFiles$Checkpoints", "goesOn", "(I)Z"⟩ prog_2_method_19_code 3 (some .boolean) 1 := ⟨by decide +kernel, q7_3, q7_5, qs4_5, q1_8, q7_6⟩
theorem kv_Chk_182 : kV "FlashFiles$Checkpoints" 182 "FlashFiles$Table" ⟨"FlashFiles$Table", "setAside", "()V"⟩ prog_9_method_12_code 1 none 0 := ⟨by decide +kernel, q7_16, q7_17, q7_18, q1_4, q7_19⟩
theorem kv_Chk_185 : kV "FlashFiles$Checkpoints" 185 "FlashFiles$Table" ⟨"FlashFiles$Table", "placeOf", "(I)I"⟩ prog_9_method_2_code 2 (some .int) 1 := ⟨by decide +kernel, q7_21, q4_61, q4_62, q1_4, q4_63⟩
theorem kv_Chk_188 : kV "FlashFiles$Checkpoints" 188 "FlashFiles$Checkpoints" ⟨"FlashFiles$Checkpoints", "claimNode", "(I)V"⟩ prog_2_method_23_code 6 none 1 := ⟨by decide +kernel, q7_22, q7_24, qs4_8, q1_8, q7_25⟩
theorem kv_Chk_191 : kV "FlashFiles$Checkpoints" 191 "FlashFiles$Table" ⟨"FlashFiles$Table", "takeUp", "(I)I"⟩ prog_9_method_13_code 2 (some .int) 1 := ⟨by decide +kernel, q7_29, q7_30, q7_31, q1_4, q7_32⟩
theorem kv_Chk_194 : kV "FlashFiles$Checkpoints" 194 "FlashFiles$Log" ⟨"FlashFiles$Log", "claim", "(II)V"⟩ prog_7_method_18_code 4 none 2 := ⟨by decide +kernel, q7_26, q4_57, q4_58, q1_5, q4_59⟩
theorem kv_Chk_51 : kV "FlashFiles$Checkpoints" 51 "FlashFiles$Device" ⟨"FlashFiles$Device", "restart", "()V"⟩ prog_4_method_8_code 1 none 0 := ⟨by decide +kernel, q2_181, q2_182, q2_183, q1_3, q2_184⟩
theorem kv_Chk_62 : kV "FlashFiles$Checkpoints" 62 "FlashFiles$Device" ⟨"FlashFiles$Device", "program", "(I[II)V"⟩ prog_4_method_6_code 4 none 3 := ⟨by decide +kernel, q3_202, q3_203, q3_204, q1_3, q3_205⟩
theorem kv_Chk_66 : kV "FlashFiles$Checkpoints" 66 "FlashFiles$Table" ⟨"FlashFiles$Table", "forget", "()V"⟩ prog_9_method_10_code 1 none 0 := ⟨by decide +kernel, q3_207, q3_208, q3_209, q1_4, q3_210⟩
theorem kv_Chk_71 : kV "FlashFiles$Checkpoints" 71 "FlashFiles$Log" ⟨"FlashFiles$Log", "forget", "()V"⟩ prog_7_method_2_code 2 none 0 := ⟨by decide +kernel, q3_217, q3_218, q3_219, q1_5, q3_220⟩
theorem kv_Chk_74 : kV "FlashFiles$Checkpoints" 74 "FlashFiles$Checkpoints" ⟨"FlashFiles$Checkpoints", "forget", "()V"⟩ prog_2_method_7_code 1 none 0 := ⟨by decide +kernel, q3_222, q3_223, q3_224, q1_8, q3_225⟩
theorem kv_Chk_75 : kV "FlashFiles$Checkpoints" 75 "FlashFiles$Checkpoints" ⟨"FlashFiles$Checkpoints", "readSuper", "()V"⟩ prog_2_method_9_code 2 none 0 := ⟨by decide +kernel, q3_226, q3_228, qs1_1, q1_8, q3_229⟩
theorem kv_Chk_78 : kV "FlashFiles$Checkpoints" 78 "FlashFiles$Log" ⟨"FlashFiles$Log", "freeDead", "()V"⟩ prog_7_method_16_code 2 none 0 := ⟨by decide +kernel, q3_239, q4_0, q4_1, q1_5, q4_2⟩
theorem kv_Chk_81 : kV "FlashFiles$Checkpoints" 81 "FlashFiles$Log" ⟨"FlashFiles$Log", "openEnds", "()V"⟩ prog_7_method_17_code 1 none 0 := ⟨by decide +kernel, q4_30, q4_31, q4_32, q1_5, q4_33⟩
theorem kv_Chk_84 : kV "FlashFiles$Checkpoints" 84 "FlashFiles$Device" ⟨"FlashFiles$Device", "word", "(II)I"⟩ prog_4_method_2_code 3 (some .int) 2 := ⟨by decide +kernel, q3_230, q3_231, q3_232, q1_3, q3_233⟩
theorem kv_Chk_88 : kV "FlashFiles$Checkpoints" 88 "FlashFiles$Log" ⟨"FlashFiles$Log", "setSegments", "(I)V"⟩ prog_7_method_7_code 2 none 1 := ⟨by decide +kernel, q3_234, q3_235, q3_236, q1_5, q3_237⟩
theorem kv_Chk_92 : kV "FlashFiles$Checkpoints" 92 "FlashFiles$Tree" ⟨"FlashFiles$Tree", "blocksInUse", "()I"⟩ prog_10_method_6_code 3 (some .int) 0 := ⟨by decide +kernel, q4_76, q4_77, q4_78, q1_7, q4_79⟩
theorem kv_Chk_98 : kV "FlashFiles$Checkpoints" 98 "FlashFiles$Checkpoints" ⟨"FlashFiles$Checkpoints", "commit", "()V"⟩ prog_2_method_13_code 1 none 0 := ⟨by decide +kernel, q4_101, q4_103, qs1_6, q1_8, q4_104⟩
theorem kv_Cle_100 : kV "FlashFiles$Cleaner" 100 "FlashFiles$Log" ⟨"FlashFiles$Log", "putNode", "(I[II)V"⟩ prog_7_method_21_code 5 none 3 := ⟨by decide +kernel, q4_191, q4_48, q4_49, q1_5, q4_50⟩
theorem kv_Cle_40 : kV "FlashFiles$Cleaner" 40 "FlashFiles$Cleaner" ⟨"FlashFiles$Cleaner", "cheapest", "(I)I"⟩ prog_3_method_4_code 7 (some .int) 1 := ⟨by decide +kernel, q4_153, q4_155, qs1_10, q1_9, q4_156⟩
theorem kv_Cle_44 : kV "FlashFiles$Cleaner" 44 "FlashFiles$Cleaner" ⟨"FlashFiles$Cleaner", "cost", "(I)I"⟩ prog_3_method_3_code 2 (some .int) 1 := ⟨by decide +kernel, q4_161, q4_163, qs1_11, q1_9, q4_164⟩
theorem kv_Cle_47 : kV "FlashFiles$Cleaner" 47 "FlashFiles$Cleaner" ⟨"FlashFiles$Cleaner", "moveNode", "(I)V"⟩ prog_3_method_6_code 9 none 1 := ⟨by decide +kernel, q4_165, q4_167, qs1_12, q1_9, q4_168⟩
theorem kv_Cle_51 : kV "FlashFiles$Cleaner" 51 "FlashFiles$Log" ⟨"FlashFiles$Log", "nodesIn", "(I)I"⟩ prog_7_method_10_code 2 (some .int) 1 := ⟨by decide +kernel, q4_158, q4_8, q4_9, q1_5, q4_10⟩
theorem kv_Cle_56 : kV "FlashFiles$Cleaner" 56 "FlashFiles$Log" ⟨"FlashFiles$Log", "dataIn", "(I)I"⟩ prog_7_method_11_code 2 (some .int) 1 := ⟨by decide +kernel, q4_159, q4_12, q4_13, q1_5, q4_14⟩
theorem kv_Cle_59 : kV "FlashFiles$Cleaner" 59 "FlashFiles$Log" ⟨"FlashFiles$Log", "segments", "()I"⟩ prog_7_method_3_code 1 (some .int) 0 := ⟨by decide +kernel, q4_157, q4_118, q4_119, q1_5, q4_120⟩
theorem kv_Cle_63 : kV "FlashFiles$Cleaner" 63 "FlashFiles$Log" ⟨"FlashFiles$Log", "isEnd", "(I)Z"⟩ prog_7_method_13_code 2 (some .boolean) 1 := ⟨by decide +kernel, q4_160, q4_16, q4_17, q1_5, q4_18⟩
theorem kv_Cle_70 : kV "FlashFiles$Cleaner" 70 "FlashFiles$Table" ⟨"FlashFiles$Table", "placeOf", "(I)I"⟩ prog_9_method_2_code 2 (some .int) 1 := ⟨by decide +kernel, q4_169, q4_61, q4_62, q1_4, q4_63⟩
theorem kv_Cle_75 : kV "FlashFiles$Cleaner" 75 "FlashFiles$Cleaner" ⟨"FlashFiles$Cleaner", "mustLeave", "(I)Z"⟩ prog_3_method_5_code 3 (some .boolean) 1 := ⟨by decide +kernel, q4_170, q4_172, qs1_13, q1_9, q4_173⟩
theorem kv_Cle_78 : kV "FlashFiles$Cleaner" 78 "FlashFiles$Device" ⟨"FlashFiles$Device", "word", "(II)I"⟩ prog_4_method_2_code 3 (some .int) 2 := ⟨by decide +kernel, q4_175, q3_231, q3_232, q1_3, q3_233⟩
theorem kv_Cle_89 : kV "FlashFiles$Cleaner" 89 "FlashFiles$Device" ⟨"FlashFiles$Device", "load", "(I[I)V"⟩ prog_4_method_5_code 3 none 2 := ⟨by decide +kernel, q4_182, q4_183, q4_184, q1_3, q4_185⟩
theorem kv_Cle_93 : kV "FlashFiles$Cleaner" 93 "FlashFiles$Log" ⟨"FlashFiles$Log", "drop", "(I)V"⟩ prog_7_method_19_code 3 none 1 := ⟨by decide +kernel, q4_186, q4_65, q4_66, q1_5, q4_67⟩
theorem kv_Cle_96 : kV "FlashFiles$Cleaner" 96 "FlashFiles$Log" ⟨"FlashFiles$Log", "putData", "([I)I"⟩ prog_7_method_22_code 3 (some .int) 1 := ⟨by decide +kernel, q4_187, q4_188, q4_189, q1_5, q4_190⟩
theorem kv_Dev_45 : kV "FlashFiles$Device" 45 "FlashFiles$Device" ⟨"FlashFiles$Device", "erase", "(II)V"⟩ prog_4_method_7_code 4 none 2 := ⟨by decide +kernel, q2_185, q2_186, q2_187, q1_3, q2_188⟩
theorem kv_FF_105 : kV "FlashFiles" 105 "FlashFiles$Checkpoints" ⟨"FlashFiles$Checkpoints", "startAnew", "(II)V"⟩ prog_2_method_8_code 3 none 2 := ⟨by decide +kernel, q2_177, q2_178, q2_179, q1_8, q2_180⟩
theorem kv_FF_109 : kV "FlashFiles" 109 "FlashFiles$Tree" ⟨"FlashFiles$Tree", "makeRoot", "()V"⟩ prog_10_method_7_code 1 none 0 := ⟨by decide +kernel, q4_38, q4_39, q4_40, q1_7, q4_41⟩
theorem kv_FF_112 : kV "FlashFiles" 112 "FlashFiles$Checkpoints" ⟨"FlashFiles$Checkpoints", "take", "()V"⟩ prog_2_method_10_code 2 none 0 := ⟨by decide +kernel, q4_72, q4_73, q4_74, q1_8, q4_75⟩
theorem kv_FF_115 : kV "FlashFiles" 115 "FlashFiles$Row" ⟨"FlashFiles$Row", "length", "()I"⟩ prog_8_method_2_code 1 (some .int) 0 := ⟨by decide +kernel, q2_93, q2_94, q2_95, q1_2, q2_96⟩
theorem kv_FF_124 : kV "FlashFiles" 124 "FlashFiles$Row" ⟨"FlashFiles$Row", "addWord", "(I)V"⟩ prog_8_method_6_code 3 none 1 := ⟨by decide +kernel, q4_216, q4_217, q4_218, q1_2, q4_219⟩
theorem kv_FF_127 : kV "FlashFiles" 127 "FlashFiles$Row" ⟨"FlashFiles$Row", "setLength", "(I)V"⟩ prog_8_method_4_code 2 none 1 := ⟨by decide +kernel, q2_97, q2_98, q2_99, q1_2, q2_100⟩
theorem kv_FF_130 : kV "FlashFiles" 130 "FlashFiles" ⟨"FlashFiles", "takeName", "(I)Z"⟩ prog_1_method_34_code 3 (some .boolean) 1 := ⟨by decide +kernel, q4_232, q4_234, qs1_14, q1_1, q4_235⟩
theorem kv_FF_134 : kV "FlashFiles" 134 "FlashFiles" ⟨"FlashFiles", "requireNewName", "(IZ)V"⟩ prog_1_method_29_code 3 none 2 := ⟨by decide +kernel, q5_13, q5_15, qs2_0, q1_1, q5_16⟩
theorem kv_FF_138 : kV "FlashFiles" 138 "FlashFiles" ⟨"FlashFiles", "requireNewId", "()V"⟩ prog_1_method_30_code 1 none 0 := ⟨by decide +kernel, q5_41, q5_43, qs2_4, q1_1, q5_44⟩
theorem kv_FF_141 : kV "FlashFiles" 141 "FlashFiles" ⟨"FlashFiles", "reserve", "(I)V"⟩ prog_1_method_36_code 2 none 1 := ⟨by decide +kernel, q5_50, q5_52, qs2_5, q1_1, q5_53⟩
theorem kv_FF_144 : kV "FlashFiles" 144 "FlashFiles$Tree" ⟨"FlashFiles$Tree", "addNew", "(I[II)I"⟩ prog_10_method_8_code 5 (some .int) 3 := ⟨by decide +kernel, q5_95, q5_96, q5_97, q1_7, q5_98⟩
theorem kv_FF_148 : kV "FlashFiles" 148 "FlashFiles" ⟨"FlashFiles", "requireFile", "(I)V"⟩ prog_1_method_27_code 2 none 1 := ⟨by decide +kernel, q5_125, q5_127, qs2_8, q1_1, q5_128⟩
theorem kv_FF_151 : kV "FlashFiles" 151 "FlashFiles$Tree" ⟨"FlashFiles$Tree", "addName", "(I[II)V"⟩ prog_10_method_18_code 7 none 3 := ⟨by decide +kernel, q5_130, q5_105, q5_106, q1_7, q5_107⟩
theorem kv_FF_155 : kV "FlashFiles" 155 "FlashFiles$Tree" ⟨"FlashFiles$Tree", "changeLinks", "(II)I"⟩ prog_10_method_11_code 4 (some .int) 2 := ⟨by decide +kernel, q5_131, q5_132, q5_133, q1_7, q5_134⟩
theorem kv_FF_159 : kV "FlashFiles" 159 "FlashFiles" ⟨"FlashFiles", "requireNamed", "(IZ)V"⟩ prog_1_method_28_code 3 none 2 := ⟨by decide +kernel, q5_17, q5_19, qs2_1, q1_1, q5_20⟩
theorem kv_FF_162 : kV "FlashFiles" 162 "FlashFiles" ⟨"FlashFiles", "requireOld", "(II)I"⟩ prog_1_method_31_code 4 (some .int) 2 := ⟨by decide +kernel, q5_146, q5_148, qs2_10, q1_1, q5_149⟩
theorem kv_FF_165 : kV "FlashFiles" 165 "FlashFiles$Tree" ⟨"FlashFiles$Tree", "idIn", "(II)I"⟩ prog_10_method_15_code 4 (some .int) 2 := ⟨by decide +kernel, q5_150, q5_151, q5_152, q1_7, q5_153⟩
theorem kv_FF_168 : kV "FlashFiles" 168 "FlashFiles$Tree" ⟨"FlashFiles$Tree", "dropName", "(II)V"⟩ prog_10_method_19_code 3 none 2 := ⟨by decide +kernel, q5_155, q5_156, q5_157, q1_7, q5_158⟩
theorem kv_FF_171 : kV "FlashFiles" 171 "FlashFiles" ⟨"FlashFiles", "loseLink", "(I)I"⟩ prog_1_method_40_code 2 (some .int) 1 := ⟨by decide +kernel, q5_160, q5_162, qs2_11, q1_1, q5_163⟩
theorem kv_FF_175 : kV "FlashFiles" 175 "FlashFiles$Tree" ⟨"FlashFiles$Tree", "wordOf", "(II)I"⟩ prog_10_method_2_code 3 (some .int) 2 := ⟨by decide +kernel, q5_39, q4_89, q4_90, q1_7, q4_91⟩
theorem kv_FF_180 : kV "FlashFiles" 180 "FlashFiles$Log" ⟨"FlashFiles$Log", "dropNode", "(I)V"⟩ prog_7_method_20_code 2 none 1 := ⟨by decide +kernel, q5_190, q5_178, q5_179, q1_5, q5_180⟩
theorem kv_FF_183 : kV "FlashFiles" 183 "FlashFiles" ⟨"FlashFiles", "takeTwoNames", "(II)Z"⟩ prog_1_method_35_code 4 (some .boolean) 2 := ⟨by decide +kernel, q5_198, q5_200, qs2_13, q1_1, q5_201⟩
theorem kv_FF_187 : kV "FlashFiles" 187 "FlashFiles$Tree" ⟨"FlashFiles$Tree", "slotOf", "(I[I)I"⟩ prog_10_method_16_code 8 (some .int) 2 := ⟨by decide +kernel, q5_23, q5_24, q5_25, q1_7, q5_26⟩
theorem kv_FF_191 : kV "FlashFiles" 191 "FlashFiles" ⟨"FlashFiles", "requireMovable", "(II)V"⟩ prog_1_method_32_code 4 none 2 := ⟨by decide +kernel, q5_202, q5_204, qs2_14, q1_1, q5_205⟩
theorem kv_FF_194 : kV "FlashFiles" 194 "FlashFiles" ⟨"FlashFiles", "requireTarget", "(IIII)V"⟩ prog_1_method_33_code 5 none 4 := ⟨by decide +kernel, q5_209, q5_211, qs2_15, q1_1, q5_212⟩
theorem kv_FF_198 : kV "FlashFiles" 198 "FlashFiles" ⟨"FlashFiles", "lose", "(I)V"⟩ prog_1_method_39_code 2 none 1 := ⟨by decide +kernel, q5_219, q5_221, qs3_0, q1_1, q5_222⟩
theorem kv_FF_201 : kV "FlashFiles" 201 "FlashFiles$Tree" ⟨"FlashFiles$Tree", "moved", "(II)V"⟩ prog_10_method_12_code 3 none 2 := ⟨by decide +kernel, q5_223, q5_224, q5_225, q1_7, q5_226⟩
theorem kv_FF_204 : kV "FlashFiles" 204 "FlashFiles" ⟨"FlashFiles", "requirePower", "()V"⟩ prog_1_method_26_code 1 none 0 := ⟨by decide +kernel, q4_236, q4_238, qs1_15, q1_1, q4_239⟩
theorem kv_FF_210 : kV "FlashFiles" 210 "FlashFiles$Files" ⟨"FlashFiles$Files", "putBytes", "(IIILFlashFiles$Row;)I"⟩ prog_5_method_2_code 7 (some .int) 4 := ⟨by decide +kernel, q6_3, q6_4, q6_5, q1_6, q6_6⟩
theorem kv_FF_214 : kV "FlashFiles" 214 "FlashFiles$Files" ⟨"FlashFiles$Files", "tellBytes", "(IIILFlashFiles$Row;)I"⟩ prog_5_method_3_code 7 (some .int) 4 := ⟨by decide +kernel, q6_87, q6_88, q6_89, q1_6, q6_90⟩
theorem kv_FF_219 : kV "FlashFiles" 219 "FlashFiles$Row" ⟨"FlashFiles$Row", "at", "(I)I"⟩ prog_8_method_3_code 2 (some .int) 1 := ⟨by decide +kernel, q6_105, q5_7, q5_8, q1_2, q5_9⟩
theorem kv_FF_224 : kV "FlashFiles" 224 "FlashFiles$Files" ⟨"FlashFiles$Files", "resize", "(II)V"⟩ prog_5_method_4_code 5 none 2 := ⟨by decide +kernel, q6_114, q6_115, q6_116, q1_6, q6_117⟩
theorem kv_FF_227 : kV "FlashFiles" 227 "FlashFiles$Table" ⟨"FlashFiles$Table", "isStirred", "(I)Z"⟩ prog_9_method_7_code 2 (some .boolean) 1 := ⟨by decide +kernel, q6_134, q6_135, q6_136, q1_4, q6_137⟩
theorem kv_FF_230 : kV "FlashFiles" 230 "FlashFiles" ⟨"FlashFiles", "failAtCut", "(Z)V"⟩ prog_1_method_37_code 2 none 1 := ⟨by decide +kernel, q5_58, q5_60, qs2_6, q1_1, q5_61⟩
theorem kv_FF_234 : kV "FlashFiles" 234 "FlashFiles$Files" ⟨"FlashFiles$Files", "commitAlone", "(I)V"⟩ prog_5_method_5_code 2 none 1 := ⟨by decide +kernel, q6_138, q6_139, q6_140, q1_6, q6_141⟩
theorem kv_FF_237 : kV "FlashFiles" 237 "FlashFiles$Checkpoints" ⟨"FlashFiles$Checkpoints", "taken", "()I"⟩ prog_2_method_4_code 1 (some .int) 0 := ⟨by decide +kernel, q6_149, q6_150, q6_151, q1_8, q6_152⟩
theorem kv_FF_240 : kV "FlashFiles" 240 "FlashFiles$Tree" ⟨"FlashFiles$Tree", "kindOf", "(I)I"⟩ prog_10_method_3_code 2 (some .int) 1 := ⟨by decide +kernel, q5_21, q4_85, q4_86, q1_7, q4_87⟩
theorem kv_FF_245 : kV "FlashFiles" 245 "FlashFiles$Tree" ⟨"FlashFiles$Tree", "tellName", "(IILFlashFiles$Row;)I"⟩ prog_10_method_20_code 8 (some .int) 3 := ⟨by decide +kernel, q6_161, q6_162, q6_163, q1_7, q6_164⟩
theorem kv_FF_251 : kV "FlashFiles" 251 "FlashFiles$Tree" ⟨"FlashFiles$Tree", "blocksOf", "(I)I"⟩ prog_10_method_4_code 3 (some .int) 1 := ⟨by decide +kernel, q6_187, q4_81, q4_82, q1_7, q4_83⟩
theorem kv_FF_254 : kV "FlashFiles" 254 "FlashFiles$Tree" ⟨"FlashFiles$Tree", "blocksInUse", "()I"⟩ prog_10_method_6_code 3 (some .int) 0 := ⟨by decide +kernel, q6_195, q4_77, q4_78, q1_7, q4_79⟩
theorem kv_FF_257 : kV "FlashFiles" 257 "FlashFiles$Checkpoints" ⟨"FlashFiles$Checkpoints", "used", "()I"⟩ prog_2_method_2_code 1 (some .int) 0 := ⟨by decide +kernel, q6_196, q6_197, q6_198, q1_8, q6_199⟩
theorem kv_FF_260 : kV "FlashFiles" 260 "FlashFiles$Checkpoints" ⟨"FlashFiles$Checkpoints", "fresh", "()I"⟩ prog_2_method_3_code 1 (some .int) 0 := ⟨by decide +kernel, q6_200, q6_201, q6_202, q1_8, q6_203⟩
theorem kv_FF_263 : kV "FlashFiles" 263 "FlashFiles$Table" ⟨"FlashFiles$Table", "idsInUse", "()I"⟩ prog_9_method_6_code 3 (some .int) 0 := ⟨by decide +kernel, q6_204, q6_205, q6_206, q1_4, q6_207⟩
theorem kv_FF_266 : kV "FlashFiles" 266 "FlashFiles" ⟨"FlashFiles", "losePower", "()V"⟩ prog_1_method_38_code 1 none 0 := ⟨by decide +kernel, q5_67, q5_69, qs2_7, q1_1, q5_70⟩
theorem kv_FF_271 : kV "FlashFiles" 271 "FlashFiles$Checkpoints" ⟨"FlashFiles$Checkpoints", "bringBack", "()I"⟩ prog_2_method_18_code 6 (some .int) 0 := ⟨by decide +kernel, q6_230, q6_231, q6_232, q1_8, q6_233⟩
theorem kv_FF_274 : kV "FlashFiles" 274 "FlashFiles$Checkpoints" ⟨"FlashFiles$Checkpoints", "cleanWithin", "()V"⟩ prog_2_method_12_code 2 none 0 := ⟨by decide +kernel, q7_41, q7_42, q7_43, q1_8, q7_44⟩
theorem kv_FF_277 : kV "FlashFiles" 277 "FlashFiles$Inspector" ⟨"FlashFiles$Inspector", "inspect", "()I"⟩ prog_6_method_2_code 2 (some .int) 0 := ⟨by decide +kernel, q7_52, q7_53, q7_54, q1_10, q7_55⟩
theorem kv_FF_288 : kV "FlashFiles" 288 "FlashFiles$Table" ⟨"FlashFiles$Table", "lowestId", "()I"⟩ prog_9_method_4_code 2 (some .int) 0 := ⟨by decide +kernel, q5_45, q5_46, q5_47, q1_4, q5_48⟩
theorem kv_FF_303 : kV "FlashFiles" 303 "FlashFiles$Tree" ⟨"FlashFiles$Tree", "isWithin", "(II)Z"⟩ prog_10_method_13_code 5 (some .boolean) 2 := ⟨by decide +kernel, q5_214, q5_215, q5_216, q1_7, q5_217⟩
theorem kv_FF_308 : kV "FlashFiles" 308 "FlashFiles$Row" ⟨"FlashFiles$Row", "packName", "(II[I)Z"⟩ prog_8_method_7_code 6 (some .boolean) 3 := ⟨by decide +kernel, q5_1, q5_2, q5_3, q1_2, q5_4⟩
theorem kv_FF_312 : kV "FlashFiles" 312 "FlashFiles$Checkpoints" ⟨"FlashFiles$Checkpoints", "fits", "(I)Z"⟩ prog_2_method_5_code 2 (some .boolean) 1 := ⟨by decide +kernel, q5_54, q5_55, q5_56, q1_8, q5_57⟩
theorem kv_FF_317 : kV "FlashFiles" 317 "FlashFiles$Checkpoints" ⟨"FlashFiles$Checkpoints", "addFresh", "(I)V"⟩ prog_2_method_6_code 2 none 1 := ⟨by decide +kernel, q5_91, q5_92, q5_93, q1_8, q5_94⟩
theorem kv_FF_320 : kV "FlashFiles" 320 "FlashFiles$Checkpoints" ⟨"FlashFiles$Checkpoints", "storePart", "(I)V"⟩ prog_2_method_14_code 2 none 1 := ⟨by decide +kernel, q5_62, q5_63, q5_64, q1_8, q5_65⟩
theorem kv_FF_328 : kV "FlashFiles" 328 "FlashFiles$Table" ⟨"FlashFiles$Table", "forget", "()V"⟩ prog_9_method_10_code 1 none 0 := ⟨by decide +kernel, q5_71, q3_208, q3_209, q1_4, q3_210⟩
theorem kv_FF_331 : kV "FlashFiles" 331 "FlashFiles$Log" ⟨"FlashFiles$Log", "forget", "()V"⟩ prog_7_method_2_code 2 none 0 := ⟨by decide +kernel, q5_72, q3_218, q3_219, q1_5, q3_220⟩
theorem kv_FF_332 : kV "FlashFiles" 332 "FlashFiles$Checkpoints" ⟨"FlashFiles$Checkpoints", "forget", "()V"⟩ prog_2_method_7_code 1 none 0 := ⟨by decide +kernel, q5_73, q3_223, q3_224, q1_8, q3_225⟩
theorem kv_FF_333 : kV "FlashFiles" 333 "FlashFiles$Files" ⟨"FlashFiles$Files", "drop", "(I)V"⟩ prog_5_method_6_code 5 none 1 := ⟨by decide +kernel, q5_164, q5_165, q5_166, q1_6, q5_167⟩
theorem kv_Fil_102 : kV "FlashFiles$Files" 102 "FlashFiles$Files" ⟨"FlashFiles$Files", "clearFrom", "([IIII)V"⟩ prog_5_method_24_code 6 none 4 := ⟨by decide +kernel, q6_24, q6_26, qs3_4, q1_6, q6_27⟩
theorem kv_Fil_105 : kV "FlashFiles$Files" 105 "FlashFiles$Files" ⟨"FlashFiles$Files", "clearTail", "(I)V"⟩ prog_5_method_22_code 4 none 1 := ⟨by decide +kernel, q6_118, q6_120, qs4_0, q1_6, q6_121⟩
theorem kv_Fil_111 : kV "FlashFiles$Files" 111 "FlashFiles$Files" ⟨"FlashFiles$Files", "cutBlock", "(I)V"⟩ prog_5_method_23_code 3 none 1 := ⟨by decide +kernel, q6_123, q6_125, qs4_1, q1_6, q6_126⟩
theorem kv_Fil_114 : kV "FlashFiles$Files" 114 "FlashFiles$Table" ⟨"FlashFiles$Table", "placeOf", "(I)I"⟩ prog_9_method_2_code 2 (some .int) 1 := ⟨by decide +kernel, q5_168, q4_61, q4_62, q1_4, q4_63⟩
theorem kv_Fil_117 : kV "FlashFiles$Files" 117 "FlashFiles$Device" ⟨"FlashFiles$Device", "word", "(II)I"⟩ prog_4_method_2_code 3 (some .int) 2 := ⟨by decide +kernel, q5_169, q3_231, q3_232, q1_3, q3_233⟩
theorem kv_Fil_122 : kV "FlashFiles$Files" 122 "FlashFiles$Files" ⟨"FlashFiles$Files", "dropWithData", "(I)V"⟩ prog_5_method_7_code 7 none 1 := ⟨by decide +kernel, q5_170, q5_172, qs2_12, q1_6, q5_173⟩
theorem kv_Fil_125 : kV "FlashFiles$Files" 125 "FlashFiles$Table" ⟨"FlashFiles$Table", "stir", "(I)V"⟩ prog_9_method_8_code 2 none 1 := ⟨by decide +kernel, q5_181, q5_101, q5_102, q1_4, q5_103⟩
theorem kv_Fil_134 : kV "FlashFiles$Files" 134 "FlashFiles$Log" ⟨"FlashFiles$Log", "drop", "(I)V"⟩ prog_7_method_19_code 3 none 1 := ⟨by decide +kernel, q5_176, q4_65, q4_66, q1_5, q4_67⟩
theorem kv_Fil_137 : kV "FlashFiles$Files" 137 "FlashFiles$Log" ⟨"FlashFiles$Log", "dropNode", "(I)V"⟩ prog_7_method_20_code 2 none 1 := ⟨by decide +kernel, q5_177, q5_178, q5_179, q1_5, q5_180⟩
theorem kv_Fil_154 : kV "FlashFiles$Files" 154 "FlashFiles$Device" ⟨"FlashFiles$Device", "load", "(I[I)V"⟩ prog_4_method_5_code 3 none 2 := ⟨by decide +kernel, q6_11, q4_183, q4_184, q1_3, q4_185⟩
theorem kv_Fil_158 : kV "FlashFiles$Files" 158 "FlashFiles$Files" ⟨"FlashFiles$Files", "loadNode", "(I[I)V"⟩ prog_5_method_12_code 3 none 2 := ⟨by decide +kernel, q6_12, q6_14, qs3_2, q1_6, q6_15⟩
theorem kv_Fil_161 : kV "FlashFiles$Files" 161 "FlashFiles$Files" ⟨"FlashFiles$Files", "closeNode", "()V"⟩ prog_5_method_13_code 1 none 0 := ⟨by decide +kernel, q6_33, q6_35, qs3_6, q1_6, q6_36⟩
theorem kv_Fil_164 : kV "FlashFiles$Files" 164 "FlashFiles$Files" ⟨"FlashFiles$Files", "numberOf", "(I)I"⟩ prog_5_method_15_code 2 (some .int) 1 := ⟨by decide +kernel, q6_37, q6_39, qs3_7, q1_6, q6_40⟩
theorem kv_Fil_173 : kV "FlashFiles$Files" 173 "FlashFiles$Files" ⟨"FlashFiles$Files", "storeNode", "(I[II)I"⟩ prog_5_method_17_code 5 (some .int) 3 := ⟨by decide +kernel, q6_41, q6_43, qs3_8, q1_6, q6_44⟩
theorem kv_Fil_177 : kV "FlashFiles$Files" 177 "FlashFiles$Files" ⟨"FlashFiles$Files", "setNumber", "(II)V"⟩ prog_5_method_16_code 3 none 2 := ⟨by decide +kernel, q6_54, q6_56, qs3_10, q1_6, q6_57⟩
theorem kv_Fil_180 : kV "FlashFiles$Files" 180 "FlashFiles$Log" ⟨"FlashFiles$Log", "putNode", "(I[II)V"⟩ prog_7_method_21_code 5 none 3 := ⟨by decide +kernel, q6_53, q4_48, q4_49, q1_5, q4_50⟩
theorem kv_Fil_184 : kV "FlashFiles$Files" 184 "FlashFiles$Files" ⟨"FlashFiles$Files", "isEmpty", "([I)Z"⟩ prog_5_method_18_code 3 (some .boolean) 1 := ⟨by decide +kernel, q6_45, q6_47, qs3_9, q1_6, q6_48⟩
theorem kv_Fil_188 : kV "FlashFiles$Files" 188 "FlashFiles$Table" ⟨"FlashFiles$Table", "giveNumber", "()I"⟩ prog_9_method_5_code 2 (some .int) 0 := ⟨by decide +kernel, q6_49, q6_50, q6_51, q1_4, q6_52⟩
theorem kv_Fil_36 : kV "FlashFiles$Files" 36 "FlashFiles$Files" ⟨"FlashFiles$Files", "begin", "(I)V"⟩ prog_5_method_8_code 2 none 1 := ⟨by decide +kernel, q6_7, q6_9, qs3_1, q1_6, q6_10⟩
theorem kv_Fil_40 : kV "FlashFiles$Files" 40 "FlashFiles$Row" ⟨"FlashFiles$Row", "at", "(I)I"⟩ prog_8_method_3_code 2 (some .int) 1 := ⟨by decide +kernel, q6_17, q5_7, q5_8, q1_2, q5_9⟩
theorem kv_Fil_50 : kV "FlashFiles$Files" 50 "FlashFiles$Files" ⟨"FlashFiles$Files", "leaveSmall", "()V"⟩ prog_5_method_19_code 1 none 0 := ⟨by decide +kernel, q6_19, q6_21, qs3_3, q1_6, q6_22⟩
theorem kv_Fil_53 : kV "FlashFiles$Files" 53 "FlashFiles$Files" ⟨"FlashFiles$Files", "turnTo", "(I)V"⟩ prog_5_method_9_code 3 none 1 := ⟨by decide +kernel, q6_29, q6_31, qs3_5, q1_6, q6_32⟩
theorem kv_Fil_56 : kV "FlashFiles$Files" 56 "FlashFiles$Files" ⟨"FlashFiles$Files", "fillBlock", "(IIILFlashFiles$Row;)V"⟩ prog_5_method_20_code 9 none 4 := ⟨by decide +kernel, q6_58, q6_60, qs3_11, q1_6, q6_61⟩
theorem kv_Fil_60 : kV "FlashFiles$Files" 60 "FlashFiles$Log" ⟨"FlashFiles$Log", "putData", "([I)I"⟩ prog_7_method_22_code 3 (some .int) 1 := ⟨by decide +kernel, q6_28, q4_188, q4_189, q1_5, q4_190⟩
theorem kv_Fil_66 : kV "FlashFiles$Files" 66 "FlashFiles$Files" ⟨"FlashFiles$Files", "setPlace", "(II)V"⟩ prog_5_method_11_code 3 none 2 := ⟨by decide +kernel, q6_72, q6_74, qs3_14, q1_6, q6_75⟩
theorem kv_Fil_76 : kV "FlashFiles$Files" 76 "FlashFiles$Files" ⟨"FlashFiles$Files", "finish", "(I)V"⟩ prog_5_method_14_code 2 none 1 := ⟨by decide +kernel, q6_76, q6_78, qs3_15, q1_6, q6_79⟩
theorem kv_Fil_79 : kV "FlashFiles$Files" 79 "FlashFiles$Row" ⟨"FlashFiles$Row", "setLength", "(I)V"⟩ prog_8_method_4_code 2 none 1 := ⟨by decide +kernel, q6_91, q2_98, q2_99, q1_2, q2_100⟩
theorem kv_Fil_89 : kV "FlashFiles$Files" 89 "FlashFiles$Row" ⟨"FlashFiles$Row", "add", "(I)V"⟩ prog_8_method_5_code 2 none 1 := ⟨by decide +kernel, q6_95, q4_221, q4_222, q1_2, q4_223⟩
theorem kv_Fil_92 : kV "FlashFiles$Files" 92 "FlashFiles$Files" ⟨"FlashFiles$Files", "placeOf", "(I)I"⟩ prog_5_method_10_code 2 (some .int) 1 := ⟨by decide +kernel, q6_62, q6_64, qs3_12, q1_6, q6_65⟩
theorem kv_Fil_95 : kV "FlashFiles$Files" 95 "FlashFiles$Files" ⟨"FlashFiles$Files", "loadBlock", "(I)V"⟩ prog_5_method_21_code 2 none 1 := ⟨by decide +kernel, q6_66, q6_68, qs3_13, q1_6, q6_69⟩
theorem kv_Fil_98 : kV "FlashFiles$Files" 98 "FlashFiles$Row" ⟨"FlashFiles$Row", "length", "()I"⟩ prog_8_method_2_code 1 (some .int) 0 := ⟨by decide +kernel, q6_96, q2_94, q2_95, q1_2, q2_96⟩
theorem kv_Ins_103 : kV "FlashFiles$Inspector" 103 "FlashFiles$Device" ⟨"FlashFiles$Device", "word", "(II)I"⟩ prog_4_method_2_code 3 (some .int) 2 := ⟨by decide +kernel, q7_66, q3_231, q3_232, q1_3, q3_233⟩
theorem kv_Ins_106 : kV "FlashFiles$Inspector" 106 "FlashFiles$Inspector" ⟨"FlashFiles$Inspector", "own", "(II)V"⟩ prog_6_method_4_code 3 none 2 := ⟨by decide +kernel, q7_67, q7_69, qs4_10, q1_10, q7_70⟩
theorem kv_Ins_115 : kV "FlashFiles$Inspector" 115 "FlashFiles$Inspector" ⟨"FlashFiles$Inspector", "inspectIndirect", "(II)V"⟩ prog_6_method_7_code 5 none 2 := ⟨by decide +kernel, q7_82, q7_84, qs4_12, q1_10, q7_85⟩
theorem kv_Ins_118 : kV "FlashFiles$Inspector" 118 "FlashFiles$Inspector" ⟨"FlashFiles$Inspector", "inspectDirectory", "(II)V"⟩ prog_6_method_8_code 8 none 2 := ⟨by decide +kernel, q7_90, q7_92, qs4_14, q1_10, q7_93⟩
theorem kv_Ins_121 : kV "FlashFiles$Inspector" 121 "FlashFiles$Inspector" ⟨"FlashFiles$Inspector", "inspectFile", "(II)V"⟩ prog_6_method_9_code 8 none 2 := ⟨by decide +kernel, q7_96, q7_98, qs4_15, q1_10, q7_99⟩
theorem kv_Ins_124 : kV "FlashFiles$Inspector" 124 "FlashFiles$Inspector" ⟨"FlashFiles$Inspector", "lead", "(I)V"⟩ prog_6_method_5_code 2 none 1 := ⟨by decide +kernel, q7_86, q7_88, qs4_13, q1_10, q7_89⟩
theorem kv_Ins_127 : kV "FlashFiles$Inspector" 127 "FlashFiles$Device" ⟨"FlashFiles$Device", "load", "(I[I)V"⟩ prog_4_method_5_code 3 none 2 := ⟨by decide +kernel, q7_94, q4_183, q4_184, q1_3, q4_185⟩
theorem kv_Ins_139 : kV "FlashFiles$Inspector" 139 "FlashFiles$Inspector" ⟨"FlashFiles$Inspector", "placeOfBlock", "(II)I"⟩ prog_6_method_10_code 6 (some .int) 2 := ⟨by decide +kernel, q7_102, q7_104, qs5_0, q1_10, q7_105⟩
theorem kv_Ins_145 : kV "FlashFiles$Inspector" 145 "FlashFiles$Log" ⟨"FlashFiles$Log", "useOf", "(I)I"⟩ prog_7_method_9_code 2 (some .int) 1 := ⟨by decide +kernel, q7_116, q7_117, q7_118, q1_5, q7_119⟩
theorem kv_Ins_148 : kV "FlashFiles$Inspector" 148 "FlashFiles$Log" ⟨"FlashFiles$Log", "nodesIn", "(I)I"⟩ prog_7_method_10_code 2 (some .int) 1 := ⟨by decide +kernel, q7_120, q4_8, q4_9, q1_5, q4_10⟩
theorem kv_Ins_151 : kV "FlashFiles$Inspector" 151 "FlashFiles$Log" ⟨"FlashFiles$Log", "dataIn", "(I)I"⟩ prog_7_method_11_code 2 (some .int) 1 := ⟨by decide +kernel, q7_121, q4_12, q4_13, q1_5, q4_14⟩
theorem kv_Ins_154 : kV "FlashFiles$Inspector" 154 "FlashFiles$Log" ⟨"FlashFiles$Log", "isFree", "(I)Z"⟩ prog_7_method_12_code 2 (some .boolean) 1 := ⟨by decide +kernel, q7_122, q7_123, q7_124, q1_5, q7_125⟩
theorem kv_Ins_157 : kV "FlashFiles$Inspector" 157 "FlashFiles$Log" ⟨"FlashFiles$Log", "freeSegments", "()I"⟩ prog_7_method_4_code 1 (some .int) 0 := ⟨by decide +kernel, q7_130, q4_140, q4_141, q1_5, q4_142⟩
theorem kv_Ins_43 : kV "FlashFiles$Inspector" 43 "FlashFiles$Device" ⟨"FlashFiles$Device", "spoiled", "()I"⟩ prog_4_method_4_code 1 (some .int) 0 := ⟨by decide +kernel, q7_57, q7_58, q7_59, q1_3, q7_60⟩
theorem kv_Ins_53 : kV "FlashFiles$Inspector" 53 "FlashFiles$Table" ⟨"FlashFiles$Table", "placeOf", "(I)I"⟩ prog_9_method_2_code 2 (some .int) 1 := ⟨by decide +kernel, q7_61, q4_61, q4_62, q1_4, q4_63⟩
theorem kv_Ins_59 : kV "FlashFiles$Inspector" 59 "FlashFiles$Inspector" ⟨"FlashFiles$Inspector", "inspectNode", "(II)V"⟩ prog_6_method_6_code 8 none 2 := ⟨by decide +kernel, q7_62, q7_64, qs4_9, q1_10, q7_65⟩
theorem kv_Ins_63 : kV "FlashFiles$Inspector" 63 "FlashFiles$Inspector" ⟨"FlashFiles$Inspector", "inspectLed", "(II)V"⟩ prog_6_method_11_code 4 none 2 := ⟨by decide +kernel, q7_106, q7_108, qs5_1, q1_10, q7_109⟩
theorem kv_Ins_66 : kV "FlashFiles$Inspector" 66 "FlashFiles$Log" ⟨"FlashFiles$Log", "segments", "()I"⟩ prog_7_method_3_code 1 (some .int) 0 := ⟨by decide +kernel, q7_110, q4_118, q4_119, q1_5, q4_120⟩
theorem kv_Ins_71 : kV "FlashFiles$Inspector" 71 "FlashFiles$Inspector" ⟨"FlashFiles$Inspector", "inspectSegment", "(I)V"⟩ prog_6_method_12_code 5 none 1 := ⟨by decide +kernel, q7_111, q7_113, qs5_2, q1_10, q7_114⟩
theorem kv_Ins_75 : kV "FlashFiles$Inspector" 75 "FlashFiles$Inspector" ⟨"FlashFiles$Inspector", "inspectFree", "()V"⟩ prog_6_method_13_code 3 none 0 := ⟨by decide +kernel, q7_126, q7_128, qs5_3, q1_10, q7_129⟩
theorem kv_Ins_78 : kV "FlashFiles$Inspector" 78 "FlashFiles$Checkpoints" ⟨"FlashFiles$Checkpoints", "wholeSerial", "(I)I"⟩ prog_2_method_17_code 4 (some .int) 1 := ⟨by decide +kernel, q7_131, q6_235, q6_236, q1_8, q6_237⟩
theorem kv_Ins_89 : kV "FlashFiles$Inspector" 89 "FlashFiles$Log" ⟨"FlashFiles$Log", "serial", "()I"⟩ prog_7_method_6_code 1 (some .int) 0 := ⟨by decide +kernel, q7_133, q4_110, q4_111, q1_5, q4_112⟩
theorem kv_Ins_92 : kV "FlashFiles$Inspector" 92 "FlashFiles$Inspector" ⟨"FlashFiles$Inspector", "expect", "(Z)V"⟩ prog_6_method_3_code 2 none 1 := ⟨by decide +kernel, q7_76, q7_78, qs4_11, q1_10, q7_79⟩
theorem kv_Ins_99 : kV "FlashFiles$Inspector" 99 "FlashFiles$Device" ⟨"FlashFiles$Device", "isWritten", "(I)Z"⟩ prog_4_method_3_code 2 (some .boolean) 1 := ⟨by decide +kernel, q7_72, q7_73, q7_74, q1_3, q7_75⟩
theorem kv_Log_103 : kV "FlashFiles$Log" 103 "FlashFiles$Log" ⟨"FlashFiles$Log", "drop", "(I)V"⟩ prog_7_method_19_code 3 none 1 := ⟨by decide +kernel, q4_64, q4_65, q4_66, q1_5, q4_67⟩
theorem kv_Log_106 : kV "FlashFiles$Log" 106 "FlashFiles$Table" ⟨"FlashFiles$Table", "setPlace", "(II)V"⟩ prog_9_method_3_code 3 none 2 := ⟨by decide +kernel, q4_68, q4_69, q4_70, q1_4, q4_71⟩
theorem kv_Log_109 : kV "FlashFiles$Log" 109 "FlashFiles$Log" ⟨"FlashFiles$Log", "isLast", "(I)Z"⟩ prog_7_method_23_code 2 (some .boolean) 1 := ⟨by decide +kernel, q4_51, q4_53, qs1_4, q1_5, q4_54⟩
theorem kv_Log_112 : kV "FlashFiles$Log" 112 "FlashFiles$Device" ⟨"FlashFiles$Device", "program", "(I[II)V"⟩ prog_4_method_6_code 4 none 3 := ⟨by decide +kernel, q4_55, q3_203, q3_204, q1_3, q3_205⟩
theorem kv_Log_116 : kV "FlashFiles$Log" 116 "FlashFiles$Log" ⟨"FlashFiles$Log", "claim", "(II)V"⟩ prog_7_method_18_code 4 none 2 := ⟨by decide +kernel, q4_56, q4_57, q4_58, q1_5, q4_59⟩
theorem kv_Log_68 : kV "FlashFiles$Log" 68 "FlashFiles$Log" ⟨"FlashFiles$Log", "nodesIn", "(I)I"⟩ prog_7_method_10_code 2 (some .int) 1 := ⟨by decide +kernel, q4_7, q4_8, q4_9, q1_5, q4_10⟩
theorem kv_Log_71 : kV "FlashFiles$Log" 71 "FlashFiles$Log" ⟨"FlashFiles$Log", "dataIn", "(I)I"⟩ prog_7_method_11_code 2 (some .int) 1 := ⟨by decide +kernel, q4_11, q4_12, q4_13, q1_5, q4_14⟩
theorem kv_Log_74 : kV "FlashFiles$Log" 74 "FlashFiles$Log" ⟨"FlashFiles$Log", "isEnd", "(I)Z"⟩ prog_7_method_13_code 2 (some .boolean) 1 := ⟨by decide +kernel, q4_15, q4_16, q4_17, q1_5, q4_18⟩
theorem kv_Log_81 : kV "FlashFiles$Log" 81 "FlashFiles$Device" ⟨"FlashFiles$Device", "erase", "(II)V"⟩ prog_4_method_7_code 4 none 2 := ⟨by decide +kernel, q4_29, q2_186, q2_187, q1_3, q2_188⟩
theorem kv_Log_87 : kV "FlashFiles$Log" 87 "FlashFiles$Log" ⟨"FlashFiles$Log", "isDead", "(I)Z"⟩ prog_7_method_14_code 2 (some .boolean) 1 := ⟨by decide +kernel, q4_3, q4_4, q4_5, q1_5, q4_6⟩
theorem kv_Log_90 : kV "FlashFiles$Log" 90 "FlashFiles$Log" ⟨"FlashFiles$Log", "setFree", "(I)V"⟩ prog_7_method_15_code 2 none 1 := ⟨by decide +kernel, q4_22, q4_23, q4_24, q1_5, q4_25⟩
theorem kv_Log_94 : kV "FlashFiles$Log" 94 "FlashFiles$Log" ⟨"FlashFiles$Log", "openSegment", "()I"⟩ prog_7_method_24_code 3 (some .int) 0 := ⟨by decide +kernel, q4_34, q4_36, qs1_2, q1_5, q4_37⟩
theorem kv_Log_98 : kV "FlashFiles$Log" 98 "FlashFiles$Table" ⟨"FlashFiles$Table", "placeOf", "(I)I"⟩ prog_9_method_2_code 2 (some .int) 1 := ⟨by decide +kernel, q4_60, q4_61, q4_62, q1_4, q4_63⟩
theorem kv_Mod_104 : kV "FlashFilesModel" 104 "FlashFilesModel" ⟨"FlashFilesModel", "blocksOf", "(I)I"⟩ prog_12_method_13_code 4 (some .int) 1 := ⟨by decide +kernel, q8_45, q8_47, qs5_11, q1_11, q8_48⟩
theorem kv_Mod_111 : kV "FlashFilesModel" 111 "FlashFilesModel" ⟨"FlashFilesModel", "isCut", "()Z"⟩ prog_12_method_15_code 2 (some .boolean) 0 := ⟨by decide +kernel, q8_22, q8_24, qs5_6, q1_11, q8_25⟩
theorem kv_Mod_115 : kV "FlashFilesModel" 115 "FlashFilesModel" ⟨"FlashFilesModel", "copyFile", "(III)V"⟩ prog_12_method_9_code 8 none 3 := ⟨by decide +kernel, q8_26, q8_28, qs5_7, q1_11, q8_29⟩
theorem kv_Mod_119 : kV "FlashFilesModel" 119 "FlashFilesModel" ⟨"FlashFilesModel", "drop", "(II)V"⟩ prog_12_method_10_code 4 none 2 := ⟨by decide +kernel, q8_37, q8_39, qs5_9, q1_11, q8_40⟩
theorem kv_Mod_126 : kV "FlashFilesModel" 126 "FlashFilesModel" ⟨"FlashFilesModel", "inUse", "()I"⟩ prog_12_method_14_code 3 (some .int) 0 := ⟨by decide +kernel, q8_41, q8_43, qs5_10, q1_11, q8_44⟩
theorem kv_Mod_141 : kV "FlashFilesModel" 141 "FlashFilesModel" ⟨"FlashFilesModel", "checkpoint", "()Z"⟩ prog_12_method_16_code 2 (some .boolean) 0 := ⟨by decide +kernel, q8_18, q8_20, qs5_5, q1_11, q8_21⟩
theorem kv_Mod_148 : kV "FlashFilesModel" 148 "FlashFilesModel" ⟨"FlashFilesModel", "throwing", "(ZZ)Z"⟩ prog_12_method_3_code 3 (some .boolean) 2 := ⟨by decide +kernel, q8_14, q8_16, qs5_4, q1_11, q8_17⟩
theorem kv_Mod_165 : kV "FlashFilesModel" 165 "FlashFilesModel" ⟨"FlashFilesModel", "nameEntry", "(IIII)V"⟩ prog_12_method_26_code 6 none 4 := ⟨by decide +kernel, q8_107, q8_109, qs6_6, q1_11, q8_110⟩
theorem kv_Mod_169 : kV "FlashFilesModel" 169 "FlashFilesModel" ⟨"FlashFilesModel", "isOff", "()Z"⟩ prog_12_method_21_code 1 (some .boolean) 0 := ⟨by decide +kernel, q8_72, q8_74, qs5_14, q1_11, q8_75⟩
theorem kv_Mod_172 : kV "FlashFilesModel" 172 "FlashFilesModel" ⟨"FlashFilesModel", "is", "(II)Z"⟩ prog_12_method_23_code 3 (some .boolean) 2 := ⟨by decide +kernel, q8_76, q8_78, qs5_15, q1_11, q8_79⟩
theorem kv_Mod_176 : kV "FlashFilesModel" 176 "FlashFilesModel" ⟨"FlashFilesModel", "isName", "(II)Z"⟩ prog_12_method_24_code 5 (some .boolean) 2 := ⟨by decide +kernel, q8_83, q8_85, qs6_0, q1_11, q8_86⟩
theorem kv_Mod_179 : kV "FlashFilesModel" 179 "FlashFilesModel" ⟨"FlashFilesModel", "seek", "(III)I"⟩ prog_12_method_25_code 7 (some .int) 3 := ⟨by decide +kernel, q8_87, q8_89, qs6_1, q1_11, q8_90⟩
theorem kv_Mod_182 : kV "FlashFilesModel" 182 "FlashFilesModel" ⟨"FlashFilesModel", "freeId", "()I"⟩ prog_12_method_29_code 2 (some .int) 0 := ⟨by decide +kernel, q8_91, q8_93, qs6_2, q1_11, q8_94⟩
theorem kv_Mod_185 : kV "FlashFilesModel" 185 "FlashFilesModel" ⟨"FlashFilesModel", "done", "()V"⟩ prog_12_method_30_code 1 none 0 := ⟨by decide +kernel, q8_95, q8_97, qs6_3, q1_11, q8_98⟩
theorem kv_Mod_188 : kV "FlashFilesModel" 188 "FlashFilesModel" ⟨"FlashFilesModel", "stops", "(I)Z"⟩ prog_12_method_17_code 2 (some .boolean) 1 := ⟨by decide +kernel, q8_99, q8_101, qs6_4, q1_11, q8_102⟩
theorem kv_Mod_191 : kV "FlashFilesModel" 191 "FlashFilesModel" ⟨"FlashFilesModel", "addEntry", "(III)V"⟩ prog_12_method_27_code 4 none 3 := ⟨by decide +kernel, q8_103, q8_105, qs6_5, q1_11, q8_106⟩
theorem kv_Mod_194 : kV "FlashFilesModel" 194 "FlashFilesModel" ⟨"FlashFilesModel", "create", "(III)I"⟩ prog_12_method_31_code 7 (some .int) 3 := ⟨by decide +kernel, q8_68, q8_70, qs5_13, q1_11, q8_71⟩
theorem kv_Mod_197 : kV "FlashFilesModel" 197 "FlashFilesModel" ⟨"FlashFilesModel", "removeEntry", "(I)V"⟩ prog_12_method_28_code 3 none 1 := ⟨by decide +kernel, q8_123, q8_125, qs6_7, q1_11, q8_126⟩
theorem kv_Mod_200 : kV "FlashFilesModel" 200 "FlashFilesModel" ⟨"FlashFilesModel", "loosen", "(I)I"⟩ prog_12_method_35_code 2 (some .int) 1 := ⟨by decide +kernel, q8_127, q8_129, qs6_8, q1_11, q8_130⟩
theorem kv_Mod_203 : kV "FlashFilesModel" 203 "FlashFilesModel" ⟨"FlashFilesModel", "isWithin", "(II)Z"⟩ prog_12_method_38_code 5 (some .boolean) 2 := ⟨by decide +kernel, q8_143, q8_145, qs6_10, q1_11, q8_146⟩
theorem kv_Mod_206 : kV "FlashFilesModel" 206 "FlashFilesModel" ⟨"FlashFilesModel", "isRefused", "(IIII)Z"⟩ prog_12_method_39_code 6 (some .boolean) 4 := ⟨by decide +kernel, q8_139, q8_141, qs6_9, q1_11, q8_142⟩
theorem kv_Mod_213 : kV "FlashFilesModel" 213 "FlashFilesModel" ⟨"FlashFilesModel", "isBefore", "(II)Z"⟩ prog_12_method_42_code 4 (some .boolean) 2 := ⟨by decide +kernel, q8_155, q8_157, qs6_11, q1_11, q8_158⟩
theorem kv_Mod_216 : kV "FlashFilesModel" 216 "FlashFilesModel" ⟨"FlashFilesModel", "own", "(II)I"⟩ prog_12_method_8_code 7 (some .int) 2 := ⟨by decide +kernel, q8_168, q8_170, qs6_13, q1_11, q8_171⟩
theorem kv_Mod_221 : kV "FlashFilesModel" 221 "FlashFilesModel" ⟨"FlashFilesModel", "grow", "(II)V"⟩ prog_12_method_44_code 3 none 2 := ⟨by decide +kernel, q8_164, q8_166, qs6_12, q1_11, q8_167⟩
theorem kv_Mod_224 : kV "FlashFilesModel" 224 "FlashFilesModel" ⟨"FlashFilesModel", "ids", "()I"⟩ prog_12_method_52_code 3 (some .int) 0 := ⟨by decide +kernel, q8_204, q8_206, qs6_15, q1_11, q8_207⟩
theorem kv_Mod_86 : kV "FlashFilesModel" 86 "FlashFilesModel" ⟨"FlashFilesModel", "take", "()I"⟩ prog_12_method_6_code 2 (some .int) 0 := ⟨by decide +kernel, q8_172, q8_174, qs6_14, q1_11, q8_175⟩
theorem kv_Mod_90 : kV "FlashFilesModel" 90 "FlashFilesModel" ⟨"FlashFilesModel", "leave", "(I)V"⟩ prog_12_method_7_code 2 none 1 := ⟨by decide +kernel, q8_33, q8_35, qs5_8, q1_11, q8_36⟩
theorem kv_Mod_97 : kV "FlashFilesModel" 97 "FlashFilesModel" ⟨"FlashFilesModel", "namesOf", "(I)I"⟩ prog_12_method_12_code 4 (some .int) 1 := ⟨by decide +kernel, q8_49, q8_51, qs5_12, q1_11, q8_52⟩
theorem kv_Row_19 : kV "FlashFiles$Row" 19 "FlashFiles$Row" ⟨"FlashFiles$Row", "add", "(I)V"⟩ prog_8_method_5_code 2 none 1 := ⟨by decide +kernel, q4_220, q4_221, q4_222, q1_2, q4_223⟩
theorem kv_Row_29 : kV "FlashFiles$Row" 29 "FlashFiles$Row" ⟨"FlashFiles$Row", "at", "(I)I"⟩ prog_8_method_3_code 2 (some .int) 1 := ⟨by decide +kernel, q5_6, q5_7, q5_8, q1_2, q5_9⟩
theorem kv_Tab_34 : kV "FlashFiles$Table" 34 "FlashFiles$Table" ⟨"FlashFiles$Table", "settle", "()V"⟩ prog_9_method_9_code 2 none 0 := ⟨by decide +kernel, q3_212, q3_213, q3_214, q1_4, q3_215⟩
theorem kv_Tre_108 : kV "FlashFiles$Tree" 108 "FlashFiles$Log" ⟨"FlashFiles$Log", "putData", "([I)I"⟩ prog_7_method_22_code 3 (some .int) 1 := ⟨by decide +kernel, q5_110, q4_188, q4_189, q1_5, q4_190⟩
theorem kv_Tre_112 : kV "FlashFiles$Tree" 112 "FlashFiles$Log" ⟨"FlashFiles$Log", "drop", "(I)V"⟩ prog_7_method_19_code 3 none 1 := ⟨by decide +kernel, q5_159, q4_65, q4_66, q1_5, q4_67⟩
theorem kv_Tre_115 : kV "FlashFiles$Tree" 115 "FlashFiles$Row" ⟨"FlashFiles$Row", "setLength", "(I)V"⟩ prog_8_method_4_code 2 none 1 := ⟨by decide +kernel, q6_165, q2_98, q2_99, q1_2, q2_100⟩
theorem kv_Tre_120 : kV "FlashFiles$Tree" 120 "FlashFiles$Tree" ⟨"FlashFiles$Tree", "namesBefore", "(I)I"⟩ prog_10_method_21_code 4 (some .int) 1 := ⟨by decide +kernel, q6_166, q6_168, qs4_2, q1_7, q6_169⟩
theorem kv_Tre_132 : kV "FlashFiles$Tree" 132 "FlashFiles$Row" ⟨"FlashFiles$Row", "add", "(I)V"⟩ prog_8_method_5_code 2 none 1 := ⟨by decide +kernel, q6_177, q4_221, q4_222, q1_2, q4_223⟩
theorem kv_Tre_135 : kV "FlashFiles$Tree" 135 "FlashFiles$Row" ⟨"FlashFiles$Row", "length", "()I"⟩ prog_8_method_2_code 1 (some .int) 0 := ⟨by decide +kernel, q6_178, q2_94, q2_95, q1_2, q2_96⟩
theorem kv_Tre_138 : kV "FlashFiles$Tree" 138 "FlashFiles$Tree" ⟨"FlashFiles$Tree", "isBefore", "(II)Z"⟩ prog_10_method_22_code 6 (some .boolean) 2 := ⟨by decide +kernel, q6_170, q6_172, qs4_3, q1_7, q6_173⟩
theorem kv_Tre_30 : kV "FlashFiles$Tree" 30 "FlashFiles$Table" ⟨"FlashFiles$Table", "placeOf", "(I)I"⟩ prog_9_method_2_code 2 (some .int) 1 := ⟨by decide +kernel, q4_92, q4_61, q4_62, q1_4, q4_63⟩
theorem kv_Tre_36 : kV "FlashFiles$Tree" 36 "FlashFiles$Device" ⟨"FlashFiles$Device", "word", "(II)I"⟩ prog_4_method_2_code 3 (some .int) 2 := ⟨by decide +kernel, q4_93, q3_231, q3_232, q1_3, q3_233⟩
theorem kv_Tre_42 : kV "FlashFiles$Tree" 42 "FlashFiles$Tree" ⟨"FlashFiles$Tree", "wordOf", "(II)I"⟩ prog_10_method_2_code 3 (some .int) 2 := ⟨by decide +kernel, q4_88, q4_89, q4_90, q1_7, q4_91⟩
theorem kv_Tre_45 : kV "FlashFiles$Tree" 45 "FlashFiles$Tree" ⟨"FlashFiles$Tree", "kindOf", "(I)I"⟩ prog_10_method_3_code 2 (some .int) 1 := ⟨by decide +kernel, q4_84, q4_85, q4_86, q1_7, q4_87⟩
theorem kv_Tre_51 : kV "FlashFiles$Tree" 51 "FlashFiles$Tree" ⟨"FlashFiles$Tree", "nodesFor", "(I)I"⟩ prog_10_method_5_code 3 (some .int) 1 := ⟨by decide +kernel, q4_97, q4_99, qs1_5, q1_7, q4_100⟩
theorem kv_Tre_54 : kV "FlashFiles$Tree" 54 "FlashFiles$Tree" ⟨"FlashFiles$Tree", "blocksOf", "(I)I"⟩ prog_10_method_4_code 3 (some .int) 1 := ⟨by decide +kernel, q4_80, q4_81, q4_82, q1_7, q4_83⟩
theorem kv_Tre_57 : kV "FlashFiles$Tree" 57 "FlashFiles$Tree" ⟨"FlashFiles$Tree", "putNew", "(III)V"⟩ prog_10_method_9_code 4 none 3 := ⟨by decide +kernel, q4_42, q4_44, qs1_3, q1_7, q4_45⟩
theorem kv_Tre_61 : kV "FlashFiles$Tree" 61 "FlashFiles$Table" ⟨"FlashFiles$Table", "lowestId", "()I"⟩ prog_9_method_4_code 2 (some .int) 0 := ⟨by decide +kernel, q5_99, q5_46, q5_47, q1_4, q5_48⟩
theorem kv_Tre_65 : kV "FlashFiles$Tree" 65 "FlashFiles$Table" ⟨"FlashFiles$Table", "stir", "(I)V"⟩ prog_9_method_8_code 2 none 1 := ⟨by decide +kernel, q5_100, q5_101, q5_102, q1_4, q5_103⟩
theorem kv_Tre_69 : kV "FlashFiles$Tree" 69 "FlashFiles$Tree" ⟨"FlashFiles$Tree", "addName", "(I[II)V"⟩ prog_10_method_18_code 7 none 3 := ⟨by decide +kernel, q5_104, q5_105, q5_106, q1_7, q5_107⟩
theorem kv_Tre_79 : kV "FlashFiles$Tree" 79 "FlashFiles$Log" ⟨"FlashFiles$Log", "putNode", "(I[II)V"⟩ prog_7_method_21_code 5 none 3 := ⟨by decide +kernel, q4_47, q4_48, q4_49, q1_5, q4_50⟩
theorem kv_Tre_84 : kV "FlashFiles$Tree" 84 "FlashFiles$Device" ⟨"FlashFiles$Device", "load", "(I[I)V"⟩ prog_4_method_5_code 3 none 2 := ⟨by decide +kernel, q5_109, q4_183, q4_184, q1_3, q4_185⟩
theorem kv_Tre_88 : kV "FlashFiles$Tree" 88 "FlashFiles$Tree" ⟨"FlashFiles$Tree", "putWord", "(III)V"⟩ prog_10_method_10_code 4 none 3 := ⟨by decide +kernel, q5_135, q5_137, qs2_9, q1_7, q5_138⟩
theorem kv_Tre_91 : kV "FlashFiles$Tree" 91 "FlashFiles$Tree" ⟨"FlashFiles$Tree", "slotWord", "(II)I"⟩ prog_10_method_14_code 3 (some .int) 2 := ⟨by decide +kernel, q5_31, q5_33, qs2_2, q1_7, q5_34⟩
theorem kv_Tre_98 : kV "FlashFiles$Tree" 98 "FlashFiles$Tree" ⟨"FlashFiles$Tree", "isName", "(I[I)Z"⟩ prog_10_method_17_code 4 (some .boolean) 2 := ⟨by decide +kernel, q5_35, q5_37, qs2_3, q1_7, q5_38⟩
