/-! a callee that returns or throws: my own rows -/
/-- it holds here, and wherever only cells of A have changed and cells have come -/
def sW (w : Cond) (A : Nat → Prop) (U : State) : Prop :=
  ∀ (V : State) (a : Array Value), U.WarmedH V.vm → U.heap.size ≤ V.heap.size → (∀ q : Nat, q < U.heap.size → ¬ A q → V.heap[q]? = U.heap[q]?) → w.before a V = true
def EXC (k : Nat) : String := if k = 1 then "java/lang/IllegalArgumentException" else if k = 2 then "java/lang/IllegalStateException" else "java/lang/UnsupportedOperationException"
def ZW : List Cond := [.isRef (.static "java/lang/Throwable" "UNASSIGNED_STACK" "[Ljava/lang/StackTraceElement;"), .isRef (.static "java/lang/Throwable" "SUPPRESSED_SENTINEL" "Ljava/util/List;"), .laysStatic "java/lang/Throwable" "UNASSIGNED_STACK" "[Ljava/lang/StackTraceElement;", .laysStatic "java/lang/Throwable" "SUPPRESSED_SENTINEL" "Ljava/util/List;", .stringRef "FlashFiles" (100) "no such device", .stringRef "FlashFiles" (121) "the tape is full", .stringRef "FlashFiles" (280) "no power", .stringRef "FlashFiles" (284) "no such directory or name", .stringRef "FlashFiles" (286) "the name is there, or the directory is full", .stringRef "FlashFiles" (291) "all ids are in use", .stringRef "FlashFiles" (325) "the power failed", .stringRef "FlashFiles" (315) "no room", .stringRef "FlashFiles" (282) "no such file", .stringRef "FlashFiles" (293) "the name is not there, or of the other kind", .stringRef "FlashFiles" (178) "the directory has names", .stringRef "FlashFiles" (295) "the name is not there", .stringRef "FlashFiles" (297) "the second name is of the other kind", .stringRef "FlashFiles" (299) "the second name's directory has names", .stringRef "FlashFiles" (301) "the other directory is full", .stringRef "FlashFiles" (306) "a directory cannot come into itself", .stringRef "FlashFiles" (208) "no such bytes or place", .stringRef "FlashFiles" (217) "below 0", .stringRef "FlashFiles" (222) "no such size", .stringRef "FlashFiles" (243) "no such directory or number", .stringRef "FlashFiles" (249) "no such what", .stringRef "FlashFiles" (269) "no device, or mounted"]
def ZS (A : Nat → Prop) (U : State) : Prop := ∀ w ∈ ZW, sW w A U
theorem ZS.step {A B : Nat → Prop} {U V : State} (h : ZS A U) (hW : U.WarmedH V.vm) (hz : U.heap.size ≤ V.heap.size) (hk : ∀ q : Nat, q < U.heap.size → ¬ A q → V.heap[q]? = U.heap[q]?) (hAB : ∀ q : Nat, q < U.heap.size → B q → A q) : ZS B V := by
  intro w hw V' a hW' hz' hk'
  exact h w hw V' a (State.WarmedH.trans hW hW') (Nat.le_trans hz hz') (fun q hq hA => (hk' q (Nat.lt_of_lt_of_le hq hz) (fun hB => hA (hAB q hq hB))).trans (hk q hq hA))
theorem ZS.calling {A : Nat → Prop} {U : State} (h : ZS A U) (g : JFrame) (mk : MethodId) (a : Array Value) : ZS A (U.calling g mk a) :=
  h.step (V := U.calling g mk a) (State.WarmedH.refl U) (Nat.le_refl _) (fun _ _ _ => rfl) (fun _ _ h => h)
abbrev rmX (d : Nat) : Room := { frames := d, cells := 1, slots := 6, locals := 64 * d }
def xn (k : Nat) : Nat := if k = 0 then 0 else 1
def xm (k : Nat) : Nat := if k = 0 then 0 else 6
/-- the end of a method that may throw: its world; by a return, or by an exception of that kind -/
def xQ (D : va_G) (tys : List (ClassId × FieldType)) (A : Nat → Prop) (w : va_W) (k : Nat) (vo : Option Value) (st : State) (o : Outcome) (t : State) : Prop :=
  fxB D tys A w t ∧ va_F A st t ∧ st.WarmedH t.vm ∧ (∃ L, st.sameButNew ({ t with vm := st.vm } : State) L (xn k) (xm k) ∧ ∀ z ∈ L, A z.base) ∧
  ((k = 0 ∧ o = .returned vo) ∨ (k ≠ 0 ∧ ∃ a ce, o = .threw a ∧ t.heap[a]? = some ce ∧ ce.vm = .none ∧ st.vm.findClass (EXC k) = some ce.cls))
def xP (l : Launch) (D : va_G) (tys : List (ClassId × FieldType)) (w : va_W) (sz : Nat) (U : State) : Prop := fxP D tys w sz U ∧ ZS (va_A w sz) U ∧ l.stackTraces = false
def CX (l : Launch) (y : MethodName) (cd : ByteArray) (mL d : Nat) (ret : Option FieldType) (D : va_G) (tys : List (ClassId × FieldType)) (w : va_W) (av : List Value) (k : Nat) (vo : Option Value) (w' : va_W) : Prop :=
  ∀ sz : Nat, MetFree l y (headSpec [.code y cd mL ret] (rmX d)) (va_Pc av (xP l D tys w sz)) (fun _ _ _ _ _ => True) (fun _ st o t => xQ D tys (va_A w sz) w' k vo st o t)
def XQ (below : List Frame) (D : va_G) (tys : List (ClassId × FieldType)) (A : Nat → Prop) (w : va_W) (k : Nat) (vo : Option Value) (s : State) : State → Prop := fun t =>
  ∃ o, t.status = .running ∧ Ended t below o ∧ xQ D tys A w k vo s o t
theorem xP.blind {l : Launch} {D : va_G} {tys : List (ClassId × FieldType)} {w : va_W} {sz : Nat} {av : List Value} {a : Array Value} {U : State} {g : JFrame} {mk : MethodId} (h : va_Pc av (xP l D tys w sz) a U) : va_Pc av (xP l D tys w sz) a (U.calling g mk a) := by
  obtain ⟨h0, h1, h2, h3⟩ := h
  obtain ⟨i1, i2⟩ := fxP.blind (av := av) a U g mk ⟨h0, h1⟩
  exact ⟨i1, i2, h2.calling g mk a, h3⟩
set_option maxHeartbeats 4000000 in
theorem xx_core {p : Program} {l : Launch} {e : Env} {R : Room} {s : State} {m : MethodId} {sargs : Array Value} {below : List Frame} {meth : Method} {c : Code} {U : State} {locs : List Loc} {cells slots : Nat}
    {y : MethodName} {cd : ByteArray} {mL d : Nat} {ret : Option FieldType} {D : va_G} {tys : List (ClassId × FieldType)} {w w' : va_W} {av : List Value} {k : Nat} {vo : Option Value} {sz : Nat}
    (hM : MetFree l y (headSpec [.code y cd mL ret] (rmX d)) (va_Pc av (xP l D tys w sz)) (fun _ _ _ _ _ => True) (fun _ st o t => xQ D tys (va_A w sz) w' k vo st o t))
    (X : Stand p l e R s m sargs below meth c U locs cells slots) {g : JFrame} {ig : Instr} {len : Nat} {mk : MethodId} {a : Array Value}
    (hg : g.method = m) (hsize : g.locals.size = c.maxLocals) (hdg : decode c.code g.pc = .ok (ig, len)) (hW : 2 * g.monitorRoom + (g.stack.map fun v => v.category).sum ≤ 8) (hn : U.methodNamed? y = some mk)
    (hfr : d + 1 ≤ R.frames) (hlo : 8 + (mL + 11) + 64 * d ≤ R.locals) (hc : cells + 1 ≤ R.cells) (hs : slots + 6 ≤ R.slots)
    (hcode : ∀ (a' : Array Value) (V : State), s.WarmedH V.vm → (Cond.code y cd mL ret).before a' V = true) (hini : ∀ (a' : Array Value) (V : State), s.WarmedH V.vm → (Cond.initialized y.cls).before a' V = true)
    (hpre : va_Pc av (xP l D tys w sz) a U) :
    ∃ (T' : State) (L : List Loc) (st t : State), st.heap = U.heap ∧ T'.heap = t.heap ∧ T'.vm = t.vm ∧ (∀ z ∈ L, va_A w sz z.base) ∧ fxB D tys (va_A w sz) w' t ∧ va_F (va_A w sz) st t ∧ Stand p l e R s m sargs below meth c T' (locs ++ L) (cells + xn k) (slots + xm k) ∧
      ((k = 0 ∧ Steps p.tables e below (doInvoke e (U.setTop g) [] mk a).1 (T'.setTop { g with pc := g.pc + len, stack := vo.toList ++ g.stack })) ∨
       (k ≠ 0 ∧ ∃ (q : Addr) (ce : Cell), t.heap[q]? = some ce ∧ ce.vm = .none ∧ s.vm.findClass (EXC k) = some ce.cls ∧ Steps p.tables e below (doInvoke e (U.setTop g) [] mk a).1 ((T'.setTop g).pushFrame (.throwing q)))) := by
  have h1 : (headSpec [.code y cd mL ret] (rmX d)).pre.before a U = true := atoms_intro fun x hx => by
    rw [List.mem_singleton] at hx
    subst hx
    exact hcode _ _ X.warmed
  have h2 : (Cond.code y cd mL ret).before a U = true := hcode _ _ X.warmed
  have hPc : va_Pc av (xP l D tys w sz) a (U.calling g mk a) := xP.blind hpre
  obtain ⟨methY, cY, hmY, hcY, -, hlY, -, -, -, -⟩ := Cond.code_spec hn h2
  obtain ⟨kY, hkY, -⟩ := className_of_methodNamed hn
  have hinitY : kY.init = .initialized := Cond.initialized_spec (findClass_of_methodNamed hn) hkY (hini #[] _ X.warmed)
  have hAt : At U g.method c below := by rw [hg]; exact X.here
  have hloc : 8 + (mL + 11) + (headSpec [.code y cd mL ret] (rmX d)).room.locals ≤ R.locals := hlo
  have hroom := X.room_calling (g := g) (m' := mk) (args' := a) (R' := (headSpec [.code y cd mL ret] (rmX d)).room) hsize hmY hcY hfr (by rw [hlY]; omega) hc hs
  have happ : (headSpec [.code y cd mL ret] (rmX d)).appliesLoose y e.platform (U.calling g mk a) = true := Spec.appliesLoose_calling (g := g) hAt hdg hn hkY hinitY hroom h1
  obtain ⟨mid, hmid⟩ := hAt.above
  have hfr9 : (U.setTop g).frames = (.java g :: mid) ++ below := by rw [State.frames_setTop' g hAt.top, hmid]; rfl
  obtain ⟨o, t, hsteps, -, hend, hq⟩ := Steps.callFree hM p X.admits X.cas X.clock (acts := []) hfr9 happ hPc trivial
  have hq' : xQ D tys (va_A w sz) w' k vo (U.calling g mk a) o t := hq
  obtain ⟨hB, hF, hWt, ⟨L, hsame, hL⟩, hkind⟩ := hq'
  rw [State.frames_setTop' g hAt.top] at hend
  obtain ⟨g₀, hg0⟩ := Option.isSome_iff_exists.mp hAt.top
  obtain ⟨r, hr⟩ := State.topJava?_eq_some.mp hg0
  have hW' : U.WarmedH t.vm := hWt
  obtain ⟨e2, q2, q3, q4, q5, q6⟩ := id hsame
  have e3 : t = ({ (U.calling g mk a).setFrames t.frames with heap := t.heap, slotsUsed := t.slotsUsed } : State).setVm t.vm := by
    have h9 : t = ({ t with vm := (U.calling g mk a).vm } : State).setVm t.vm := rfl
    rw [e2] at h9
    exact h9
  have hr' : (({ U with heap := t.heap, slotsUsed := t.slotsUsed } : State).setVm t.vm).frames = .java g₀ :: r := hr
  have hsU : U.sameButNew ({ U with heap := t.heap, slotsUsed := t.slotsUsed } : State) L (xn k) (xm k) := by
    refine ⟨?_, q2, q3, q4, q5, q6⟩
    obtain ⟨z, hz, -⟩ := State.frames_cons hr
    show ({ U with heap := t.heap, slotsUsed := t.slotsUsed } : State) = { U.setFrames U.frames with heap := t.heap, slotsUsed := t.slotsUsed }
    rw [State.setFrames_self hz]
  have X' : Stand p l e R s m sargs below meth c (({ U with heap := t.heap, slotsUsed := t.slotsUsed } : State).setVm t.vm) (locs ++ L) (cells + xn k) (slots + xm k) :=
    ⟨X.admits, X.cas, X.clock, X.frames, X.room, X.hears, X.method, X.code, (X.here.setHeapUsed t.heap t.slotsUsed).setVm hW'.alike, X.tail, State.WarmedH.trans X.warmed hW', X.limits, X.bytes, X.same.trans (hsU.setVm s.vm)⟩
  refine ⟨({ U with heap := t.heap, slotsUsed := t.slotsUsed } : State).setVm t.vm, L, U.calling g mk a, t, rfl, rfl, rfl, hL, hB, hF, X', ?_⟩
  rcases hkind with ⟨hk, rfl⟩ | ⟨hk, q, ce, rfl, hce, hcv, hcl⟩
  · refine Or.inl ⟨hk, ?_⟩
    obtain ⟨c₂, i₂, len₂, hc₂, hd₂, hf₂⟩ := hend
    have hcc : c₂ = c := by
      have h9 : t.code? g.method = U.code? g.method := by rw [State.code?_eq, State.code?_eq, hW'.alike.method?]
      exact Option.some.inj (hc₂.symm.trans (h9.trans hAt.code))
    subst hcc
    have hlen : len₂ = len := by rw [hdg] at hd₂; cases hd₂; rfl
    subst hlen
    have ht : t = (({ U with heap := t.heap, slotsUsed := t.slotsUsed } : State).setVm t.vm).setTop { g with pc := g.pc + len₂, stack := vo.toList ++ g.stack } := by
      refine e3.trans ?_
      rw [hf₂, State.calling_eq hAt.top, State.setFrames_setFrames, State.setTop_of_frames _ hr', hr]
      rfl
    rw [← ht]
    exact hsteps
  · refine Or.inr ⟨hk, q, ce, hce, hcv, ?_, ?_⟩
    · have h9 : U.vm.findClass (EXC k) = some ce.cls := hcl
      rw [X.warmed.alike.findClass] at h9
      exact h9
    · have hf₂ : t.frames = .throwing q :: .java g :: U.frames.tail := hend
      have ht : t = ((({ U with heap := t.heap, slotsUsed := t.slotsUsed } : State).setVm t.vm).setTop g).pushFrame (.throwing q) := by
        refine e3.trans ?_
        rw [hf₂, State.calling_eq hAt.top, State.setFrames_setFrames, State.pushFrame, State.frames_setTop _ hr', State.setTop_of_frames _ hr', State.setFrames_setFrames, hr]
        rfl
      rw [← ht]
      exact hsteps
