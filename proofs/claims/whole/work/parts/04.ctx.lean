/-! the machine around a method, contracts over whole worlds, their ends and calls -/
abbrev rmN (d : Nat) : Room := { frames := d, cells := 0, slots := 0, locals := 64 * d }
def FX (p : Program) (s : State) (m : MethodId) (meth : Method) (c : Code) (cc : ByteArray) (nL : Nat) (ret : Option FieldType) (own : String) (D : va_G) (tys : List (ClassId × FieldType)) (A : Nat → Prop) : Prop :=
  p.tables.exec = Jvm.exec ∧ c.code = cc ∧ c.maxLocals = nL ∧ meth.sig.returnType = ret ∧ meth.locks = false ∧ s.vm.findClass own = some m.cls ∧ TB s ∧ va_K D cls tys s ∧ ∀ q, s.heap.size ≤ q → A q
def fxP (D : va_G) (tys : List (ClassId × FieldType)) (w : va_W) (sz : Nat) : State → Prop := fun U => U.heap.size = sz ∧ TB U ∧ va_P D cls w U.heap ∧ va_K D cls tys U ∧ va_D (fun _ => True) w
def fxB (D : va_G) (tys : List (ClassId × FieldType)) (A : Nat → Prop) (w : va_W) : State → Prop := fun t => va_P D cls w t.heap ∧ va_K D cls tys t ∧ TB t ∧ va_D A w
def fxQi (D : va_G) (tys : List (ClassId × FieldType)) (A : Nat → Prop) (w : va_W) (r : Int32) : Array Value → State → Outcome → State → Prop := va_Qi (S := Unit) (fun x _ => x = r) (fun _ => fxB D tys A w) A
def fxQv (D : va_G) (tys : List (ClassId × FieldType)) (A : Nat → Prop) (w : va_W) : Array Value → State → Outcome → State → Prop := va_Qv (S := Unit) (fun _ => True) (fun _ => fxB D tys A w) A
def CI (l : Launch) (y : MethodName) (cd : ByteArray) (mL d : Nat) (ret : Option FieldType) (D : va_G) (tys : List (ClassId × FieldType)) (w : va_W) (av : List Value) (r : Int32) (w' : va_W) : Prop :=
  ∀ sz : Nat, Met l y [.code y cd mL ret] (rmN d) (va_Pc av (fxP D tys w sz)) (fxQi D tys (va_A w sz) w' r) 0 0 (va_A w sz)
def CV (l : Launch) (y : MethodName) (cd : ByteArray) (mL d : Nat) (D : va_G) (tys : List (ClassId × FieldType)) (w : va_W) (av : List Value) (w' : va_W) : Prop :=
  ∀ sz : Nat, Met l y [.code y cd mL none] (rmN d) (va_Pc av (fxP D tys w sz)) (fxQv D tys (va_A w sz) w') 0 0 (va_A w sz)
theorem fxP.blind {D : va_G} {tys : List (ClassId × FieldType)} {w : va_W} {sz : Nat} {av : List Value} : FrameBlind (va_Pc av (fxP D tys w sz)) := by
  intro a U g mk h
  obtain ⟨h0, h1, h2, h3, h4, h5⟩ := h
  exact ⟨h0, h1, h2.calling g mk a, h3, va_K.moved (u := U) (U := U.calling g mk a) (Vm.Alike.refl U.vm) h4, h5⟩
theorem Met.fx {l : Launch} {y : MethodName} {cd : ByteArray} {mL d : Nat} {ret : Option FieldType} {D : va_G} {tys : List (ClassId × FieldType)} {w : va_W} {av : List Value} {sz : Nat} {Qc : (Nat → Prop) → Array Value → State → Outcome → State → Prop}
    (hy : plainName y.cls = true) (hav : (lg_sl av).length ≤ mL)
    (body : ∀ (p : Program) (e : Env) (s : State) (m : MethodId) (below : List Frame) (meth : Method) (c : Code) (A : Nat → Prop) (ls : Array Slot), FX p s m meth c cd mL ret y.cls D tys A → va_P D cls w s.heap → va_D A w → lv_has ls mL (lv_args 0 av) →
      W p l e (rmN d) s m av.toArray below meth c s.heap [] 0 0 (MQ below (Qc A) av.toArray s 0 0 A) (F0 m 0 ls [])) :
    Met l y [.code y cd mL ret] (rmN d) (va_Pc av (fxP D tys w sz)) (Qc (va_A w sz)) 0 0 (va_A w sz) := by
  refine Met.ofW (cc := cd) (maxL := mL) (ret := ret) hy rfl ?_
  intro p e s m args below meth c s₁ B hml hv
  obtain ⟨rfl, hsz, hT, hP, hK, hD0⟩ := hv
  subst hsz
  have hl := lv_entry av (n := mL) hav
  rw [lg_entry_eq]
  exact body p e s m below meth c _ _ ⟨B.exec, B.bytes, hml, B.returns, B.notSynchronized, findClass_of_methodNamed B.named, hT, hK, fun q h => Or.inr h⟩ hP hD0.self hl
section FXR
variable {p : Program} {l : Launch} {e : Env} {R : Room} {s : State} {m : MethodId} {args : Array Value} {below : List Frame} {meth : Method} {c : Code} {H : Heap} {locs : List Loc} {Q : State → Prop}
variable {cc : ByteArray} {nL : Nat} {own : String} {D : va_G} {tys : List (ClassId × FieldType)} {A : Nat → Prop} {w w' : va_W} {pc : Nat} {ls : Array Slot} {rest st0 : List Value} {rt : Option FieldType}
theorem fx_iret {r : Int32} (X : FX p s m meth c cc nL (some .int) own D tys A) (hP : va_P D cls w H) (hD : va_D A w) (hS : va_S A s.heap H locs) (hdg : decode cc pc = .ok (.ireturn, 1)) :
    W p l e R s m args below meth c H locs 0 0 (MQ below (fxQi D tys A w r) args s 0 0 A) (F0 m pc ls [.int r]) := by
  obtain ⟨hx, hb, -, hr, hlocks, -, hT, hK, -⟩ := X
  exact W.iret hx hb hr (fun t ht hW => ⟨⟨r, (), rfl, rfl, by rw [ht]; exact hP, va_K.moved hW.alike hK, hT.warm hW, hD⟩, hS.F ht⟩) hS.2.2 hdg
theorem fx_zret {r : Int32} (X : FX p s m meth c cc nL (some .boolean) own D tys A) (hP : va_P D cls w H) (hD : va_D A w) (hS : va_S A s.heap H locs) (hz : r = 0 ∨ r = 1) (hdg : decode cc pc = .ok (.ireturn, 1)) :
    W p l e R s m args below meth c H locs 0 0 (MQ below (fxQi D tys A w r) args s 0 0 A) (F0 m pc ls [.int r]) := by
  obtain ⟨hx, hb, -, hr, hlocks, -, hT, hK, -⟩ := X
  have hn : narrow .boolean (.int r) = .int r := by rcases hz with rfl | rfl <;> rfl
  exact W.zret hx hb hr hn (fun t ht hW => ⟨⟨r, (), rfl, rfl, by rw [ht]; exact hP, va_K.moved hW.alike hK, hT.warm hW, hD⟩, hS.F ht⟩) hS.2.2 hdg
theorem fx_vret (X : FX p s m meth c cc nL none own D tys A) (hP : va_P D cls w H) (hD : va_D A w) (hS : va_S A s.heap H locs) (hdg : decode cc pc = .ok (.return_, 1)) :
    W p l e R s m args below meth c H locs 0 0 (MQ below (fxQv D tys A w) args s 0 0 A) (F0 m pc ls []) := by
  obtain ⟨hx, hb, -, hr, hlocks, -, hT, hK, -⟩ := X
  exact W.vret hx hb hr (fun t ht hW => ⟨⟨(), rfl, trivial, by rw [ht]; exact hP, va_K.moved hW.alike hK, hT.warm hW, hD⟩, hS.F ht⟩) hS.2.2 hdg
theorem fx_sub (hD : va_D A w) (hS : va_S A s.heap H locs) (hA : ∀ q, s.heap.size ≤ q → A q) : ∀ q, va_A w H.size q → A q := by
  intro q h
  rcases h with ⟨k, e, h⟩ | h
  · exact hD.2 k (q, e) h
  · exact hA q (Nat.le_trans hS.1 h)
/-- the words of a call of a method of an object -/
def kV (own : String) (idx : Nat) (C : String) (y : MethodName) (cd : ByteArray) (mL : Nat) (ret : Option FieldType) (n : Nat) : Prop :=
  (y.cls = C ∧ y.cls ≠ "java/lang/invoke/MethodHandle" ∧ y.cls ≠ "java/lang/invoke/VarHandle" ∧ (parseMethodDescriptor y.desc).map (fun d => d.parameters.length) = some n) ∧ Cond.methodLink own idx y ∈ TT ∧ Cond.instanceMethod y ∈ TT ∧ Cond.selects C y y ∈ TT ∧ Cond.initialized C ∈ TT ∧ Cond.code y cd mL ret ∈ TT
def kS (own : String) (idx : Nat) (y : MethodName) (cd : ByteArray) (mL : Nat) (ret : Option FieldType) (n : Nat) : Prop :=
  (y.cls ≠ "java/lang/invoke/MethodHandle" ∧ y.cls ≠ "java/lang/invoke/VarHandle" ∧ (parseMethodDescriptor y.desc).map (fun d => d.parameters.length) = some n) ∧ Cond.methodLink own idx y ∈ TT ∧ Cond.static y ∈ TT ∧ Cond.initialized y.cls ∈ TT ∧ Cond.code y cd mL ret ∈ TT
def kN (own : String) (idx : Nat) (host : String) (y : MethodName) (cd : ByteArray) (mL : Nat) (ret : Option FieldType) (n : Nat) : Prop :=
  (y.cls ≠ "java/lang/invoke/MethodHandle" ∧ y.cls ≠ "java/lang/invoke/VarHandle" ∧ (parseMethodDescriptor y.desc).map (fun d => d.parameters.length) = some n) ∧ Cond.methodLinkNest own idx y host ∈ TT ∧ Cond.static y ∈ TT ∧ Cond.initialized y.cls ∈ TT ∧ Cond.code y cd mL ret ∈ TT
theorem one_code {y : MethodName} {cd : ByteArray} {mL : Nat} {ret : Option FieldType} : GoodIn [Cond.code y cd mL ret] [Cond.code y cd mL ret] := fun w h => ⟨h, by
  rw [List.mem_singleton] at h
  subst h
  exact good_of_word rfl⟩
section RUN
variable {y : MethodName} {cd : ByteArray} {mL d idx n sz : Nat} {ret : Option FieldType} {C host : String} {b : Nat} {As : List Value} {Qc : Array Value → State → Outcome → State → Prop}
theorem fx_runV (X : FX p s m meth c cc nL rt own D tys A) (hM : Met l y [.code y cd mL ret] (rmN d) (va_Pc (.ref b :: As) (fxP D tys w H.size)) Qc 0 0 (va_A w H.size)) (hP : va_P D cls w H) (hD : va_D A w) (K : kV own idx C y cd mL ret n) (hR : d + 1 ≤ R.frames ∧ 8 + (mL + 11) + 64 * d ≤ R.locals) (q0 : Nat) {ci N : Nat} {T : u_T} {fs : List Value} (he : w[q0]? = some (b, .inr (ci, fs))) (hc : cls[ci]? = some (C, T, N))
    (hn : As.length = n) (hls : ls.size = nL) (hst : st0 = As.reverse ++ .ref b :: rest) (hW : (rest.map fun v => v.category).sum ≤ 8) (hdg : decode cc pc = .ok (.invokevirtual idx, 3)) :
    va_Run p l e R s m args below meth c H locs 0 0 0 0 (F0 m pc ls st0) rest (Qc (Value.ref b :: As).toArray) (va_A w H.size) := by
  obtain ⟨hx, hb, hml, hr, hlocks, hown, hT, hK, hA⟩ := X
  obtain ⟨hd, k1, k2, k3, k4, k5⟩ := K
  have hts : ∀ w9 ∈ wsV own idx C y [.code y cd mL ret], w9.before args s = true := by
    intro w9 h9
    simp only [wsV, List.mem_append, List.mem_cons, List.not_mem_nil, or_false] at h9
    rcases h9 with (rfl | rfl | rfl | rfl) | rfl
    · exact hT.use k1
    · exact hT.use k2
    · exact hT.use k3
    · exact hT.use k4
    · exact hT.use k5
  have hG : GoodIn (wsV own idx C y [.code y cd mL ret]) (wsV own idx C y [.code y cd mL ret]) := fun w9 h9 => ⟨h9, by
    simp only [wsV, List.mem_append, List.mem_cons, List.not_mem_nil, or_false] at h9
    rcases h9 with (rfl | rfl | rfl | rfl) | rfl <;> exact good_of_word rfl⟩
  exact va_runV (nL := nL) ⟨hx, hb, hml, hown, hts⟩ hM (cwV n hts hG rfl rfl rfl hd hR) ⟨fxP.blind, va_recv hK hP hc he, fun U hU hW9 => ⟨rfl, by rw [hU], hT.warm hW9, by rw [hU]; exact hP, va_K.moved hW9.alike hK, hD.weaken (fun _ _ _ _ => trivial)⟩⟩ rfl hn hls hst (lv_room hW) hdg ⟨Nat.zero_le _, Nat.zero_le _⟩
theorem fx_runS (X : FX p s m meth c cc nL rt own D tys A) (hM : Met l y [.code y cd mL ret] (rmN d) (va_Pc As (fxP D tys w H.size)) Qc 0 0 (va_A w H.size)) (hP : va_P D cls w H) (hD : va_D A w) (K : kS own idx y cd mL ret n) (hR : d + 1 ≤ R.frames ∧ 8 + (mL + 11) + 64 * d ≤ R.locals)
    (hn : As.length = n) (hls : ls.size = nL) (hst : st0 = As.reverse ++ rest) (hW : (rest.map fun v => v.category).sum ≤ 8) (hdg : decode cc pc = .ok (.invokestatic idx, 3)) :
    va_Run p l e R s m args below meth c H locs 0 0 0 0 (F0 m pc ls st0) rest (Qc As.toArray) (va_A w H.size) := by
  obtain ⟨hx, hb, hml, hr, hlocks, hown, hT, hK, hA⟩ := X
  obtain ⟨hd, k1, k2, k4, k5⟩ := K
  have hts : ∀ w9 ∈ [Cond.code y cd mL ret], w9.before args s = true := by
    intro w9 h9
    rw [List.mem_singleton] at h9
    subst h9
    exact hT.use k5
  exact va_runS (nL := nL) ⟨hx, hb, hml, hown, hts⟩ hM ⟨callB_of n hts one_code rfl rfl rfl (hT.use k4) (hT.use k1) hd hR, hT.use k2⟩ ⟨fxP.blind, fun U hU hW9 => ⟨rfl, by rw [hU], hT.warm hW9, by rw [hU]; exact hP, va_K.moved hW9.alike hK, hD.weaken (fun _ _ _ _ => trivial)⟩⟩ rfl hn hls hst (lv_room hW) hdg ⟨Nat.zero_le _, Nat.zero_le _⟩
theorem fx_runN (X : FX p s m meth c cc nL rt own D tys A) (hM : Met l y [.code y cd mL ret] (rmN d) (va_Pc As (fxP D tys w H.size)) Qc 0 0 (va_A w H.size)) (hP : va_P D cls w H) (hD : va_D A w) (K : kN own idx host y cd mL ret n) (hR : d + 1 ≤ R.frames ∧ 8 + (mL + 11) + 64 * d ≤ R.locals)
    (hn : As.length = n) (hls : ls.size = nL) (hst : st0 = As.reverse ++ rest) (hW : (rest.map fun v => v.category).sum ≤ 8) (hdg : decode cc pc = .ok (.invokestatic idx, 3)) :
    va_Run p l e R s m args below meth c H locs 0 0 0 0 (F0 m pc ls st0) rest (Qc As.toArray) (va_A w H.size) := by
  obtain ⟨hx, hb, hml, hr, hlocks, hown, hT, hK, hA⟩ := X
  obtain ⟨hd, k1, k2, k4, k5⟩ := K
  have hts : ∀ w9 ∈ [Cond.code y cd mL ret], w9.before args s = true := by
    intro w9 h9
    rw [List.mem_singleton] at h9
    subst h9
    exact hT.use k5
  exact va_runSN (nL := nL) ⟨hx, hb, hml, hown, hts⟩ hM ⟨va_cnB n hts one_code rfl rfl rfl (hT _ k1) (hT.use k4) hd hR, hT.use k2, trivial⟩ ⟨fxP.blind, fun U hU hW9 => ⟨rfl, by rw [hU], hT.warm hW9, by rw [hU]; exact hP, va_K.moved hW9.alike hK, hD.weaken (fun _ _ _ _ => trivial)⟩⟩ rfl hn hls hst (lv_room hW) hdg ⟨Nat.zero_le _, Nat.zero_le _⟩
theorem fx_i {r : Int32} {a : Array Value} (X : FX p s m meth c cc nL rt own D tys A) (hr : va_Run p l e R s m args below meth c H locs 0 0 0 0 (F0 m pc ls st0) rest (fxQi D tys (va_A w H.size) w' r a) (va_A w H.size)) (hD : va_D A w) (hS : va_S A s.heap H locs)
    (kk : ∀ (H1 : Heap) (locs1 : List Loc), va_P D cls w' H1 → va_D A w' → va_S A s.heap H1 locs1 → W p l e R s m args below meth c H1 locs1 0 0 Q (F0 m (pc + 3) ls (.int r :: rest))) : W p l e R s m args below meth c H locs 0 0 Q (F0 m pc ls st0) := by
  obtain ⟨hx, hb, hml, -, hlocks, hown, hT, hK, hA⟩ := X
  have hF := fx_sub hD hS hA
  refine va_calli hr hS (fun q _ h => hF q h) hF (fun x u t H1 locs1 ht hvm hw hB hz1 hk1 hS1 => ?_)
  obtain ⟨b1, b2, b3, b4⟩ := hB
  rw [ht] at b1
  subst hw
  exact kk H1 locs1 b1 (b4.weaken (fun _ _ _ h => hF _ h)) hS1
theorem fx_v {a : Array Value} (X : FX p s m meth c cc nL rt own D tys A) (hr : va_Run p l e R s m args below meth c H locs 0 0 0 0 (F0 m pc ls st0) rest (fxQv D tys (va_A w H.size) w' a) (va_A w H.size)) (hD : va_D A w) (hS : va_S A s.heap H locs)
    (kk : ∀ (H1 : Heap) (locs1 : List Loc), va_P D cls w' H1 → va_D A w' → va_S A s.heap H1 locs1 → W p l e R s m args below meth c H1 locs1 0 0 Q (F0 m (pc + 3) ls rest)) : W p l e R s m args below meth c H locs 0 0 Q (F0 m pc ls st0) := by
  obtain ⟨hx, hb, hml, -, hlocks, hown, hT, hK, hA⟩ := X
  have hF := fx_sub hD hS hA
  refine va_callv hr hS (fun q _ h => hF q h) hF (fun u t H1 locs1 ht hvm hw hB hz1 hk1 hS1 => ?_)
  obtain ⟨b1, b2, b3, b4⟩ := hB
  rw [ht] at b1
  exact kk H1 locs1 b1 (b4.weaken (fun _ _ _ h => hF _ h)) hS1
end RUN
end FXR
