/-! an exception is caught by its class: the table's rows may not be linked yet -/
section CAT
variable {e : Env} {s₀ S : State} {f : JFrame} {a : Addr} {cell : Cell}
theorem go_one {x : ExceptionTableEntry} {t : List ExceptionTableEntry} {c : ClassId} {Q : Handler → Pre} {E : CtlPost} {d : Bool} {acts : List Action} (hx : covers x f.pc = true) (h0 : x.catchType ≠ 0)
    (hl : S.vm.ClassLinks e.platform f.method.cls x.catchType c) (hcell : S.heap[a]? = some cell) (hobj : ∀ k, cell.vm ≠ .statics k) (hk : ∃ k, S.vm.classes[cell.cls]? = some k) (hc : ∃ k, S.vm.classes[c]? = some k) :
    wp (findHandler.go f a (x :: t)) Q E e d acts S ↔
      if S.vm.assignable cell.cls c = true then Q (.found x.handlerPc) d acts (S.setVm (S.vm.noted f.method.cls x.catchType (.cls c)))
      else wp (findHandler.go f a t) Q E e d acts (S.setVm (S.vm.noted f.method.cls x.catchType (.cls c))) := by
  simp only [covers] at hx
  obtain ⟨ha, ht⟩ := (resolveClass_links e.toSetting hl).op (op := VmOp.resolveClass f.method.cls x.catchType) rfl
  have hal : S.vm.Alike (S.vm.noted f.method.cls x.catchType (.cls c)) := (Vm.Alike.refl S.vm).noted _ _ _
  obtain ⟨k1, hk1⟩ := hk
  obtain ⟨k2, hk2⟩ := hc
  obtain ⟨k1', hk1', -⟩ := hal.2.2 _ _ hk1
  obtain ⟨k2', hk2', -⟩ := hal.2.2 _ _ hk2
  have hsame : (S.vm.noted f.method.cls x.catchType (.cls c)).assignable cell.cls c = S.vm.assignable cell.cls c := hal.assignable ..
  cases hfit : S.vm.assignable cell.cls c <;> rw [hfit] at hsame <;> simp [findHandler.go, hx, h0, ha, ht, hcell, hobj, hk1', hk2', hsame, VmOp.dirties, VmOp.acts]
/-- which row takes it -/
def Sel (e : Env) (s₀ : State) (d pc : Nat) (thrown : ClassId) : List ExceptionTableEntry → Nat → Prop
  | [], _ => False
  | x :: t, h => covers x pc = true ∧ x.catchType ≠ 0 ∧ ∃ c, s₀.vm.ClassLinks e.platform d x.catchType c ∧ ((s₀.vm.assignable thrown c = true ∧ h = x.handlerPc) ∨ (s₀.vm.assignable thrown c = false ∧ Sel e s₀ d pc thrown t h))
theorem go_sel (hobj : ∀ k, cell.vm ≠ .statics k) (hk0 : ∃ k, s₀.vm.classes[cell.cls]? = some k) : ∀ (tab : List ExceptionTableEntry) (h : Nat) (S : State), s₀.WarmedH S.vm → S.heap[a]? = some cell → Sel e s₀ f.method.cls f.pc cell.cls tab h →
    ∃ vm', s₀.WarmedH vm' ∧ ∀ (Q : Handler → Pre) (E : CtlPost) (d : Bool) (acts : List Action), wp (findHandler.go f a tab) Q E e d acts S ↔ Q (.found h) d acts (S.setVm vm') := by
  obtain ⟨k0, hk0⟩ := hk0
  intro tab
  induction tab with
  | nil => intro h S _ _ hs; exact hs.elim
  | cons x t ih =>
    intro h S hW hcell hs
    obtain ⟨hx, h0, c, hl, hcase⟩ := hs
    obtain ⟨k0', hk0', -⟩ := hW.alike.2.2 _ _ hk0
    obtain ⟨dk, _, _, kt, hd, _, _, _, _, hkt, _, hopen⟩ := hl.here
    obtain ⟨kt', hkt', -⟩ := hW.alike.2.2 _ _ hkt
    have hasg : S.vm.assignable cell.cls c = s₀.vm.assignable cell.cls c := hW.alike.assignable ..
    have hW' : s₀.WarmedH (S.vm.noted f.method.cls x.catchType (.cls c)) := hW.noted hd hopen (State.rightAt_cls hl)
    rcases hcase with ⟨hy, rfl⟩ | ⟨hn, ht⟩
    · refine ⟨_, hW', fun Q E d acts => ?_⟩
      rw [go_one hx h0 (hW.classLinks hl) hcell hobj ⟨k0', hk0'⟩ ⟨kt', hkt'⟩, if_pos (hasg.trans hy)]
    · obtain ⟨vm', h1, h2⟩ := ih h (S.setVm (S.vm.noted f.method.cls x.catchType (.cls c))) hW' hcell ht
      refine ⟨vm', h1, fun Q E d acts => ?_⟩
      rw [go_one hx h0 (hW.classLinks hl) hcell hobj ⟨k0', hk0'⟩ ⟨kt', hkt'⟩, if_neg (by rw [hasg, hn]; decide)]
      exact h2 Q E d acts
theorem catch_step {r : List Frame} {pc : Nat} {vm' : Vm} (hf : ∀ (Q : Handler → Pre) (E : CtlPost) (d : Bool) (acts : List Action), wp (findHandler f a) Q E e d acts S ↔ Q (.found pc) d acts (S.setVm vm')) :
    (stepThrowing e S a (.java f :: r)).Is ((S.setVm vm').setFrames (.java { f with pc := pc, stack := [.ref a] } :: r)) [] := by
  simp only [stepThrowing, searchFrame, vmDo]
  generalize hr : Sem.go _ e false [] S = res
  obtain ⟨as, rfl, ha⟩ := Sem.eq_ok_of hr (a := Handler.found pc) (s' := S.setVm vm') (acts' := []) (by simp [hf _ _ _ _])
  exact ⟨rfl, ha⟩
theorem caught_to {tb : Tables} {T target : State} {g : JFrame} {c : Code} {below : List Frame} {pc : Nat} {vm' : Vm} (h : At T g.method c below)
    (hf : ∀ (Q : Handler → Pre) (E : CtlPost) (d : Bool) (acts : List Action), wp (findHandler g a) Q E e d acts ((T.setTop g).pushFrame (.throwing a)) ↔ Q (.found pc) d acts (((T.setTop g).pushFrame (.throwing a)).setVm vm'))
    (hrest : Steps tb e below ((T.setVm vm').setTop { g with pc := pc, stack := [.ref a] }) target) : Steps tb e below ((T.setTop g).pushFrame (.throwing a)) target := by
  obtain ⟨hgo, hw⟩ := h.throwing a
  refine Steps.head hgo hw ?_
  rw [stepThread_throwing (frames_entered h.top _), (catch_step (S := (T.setTop g).pushFrame (.throwing a)) hf).1]
  obtain ⟨g₀, hg⟩ := Option.isSome_iff_exists.mp h.top
  obtain ⟨r, hr⟩ := State.topJava?_eq_some.mp hg
  have hr' : (T.setVm vm').frames = .java g₀ :: r := hr
  rw [State.setTop_of_frames _ hr'] at hrest
  have e1 : ((T.setTop g).pushFrame (.throwing a)).setVm vm' = ((T.setVm vm').setTop g).pushFrame (.throwing a) := rfl
  rw [e1, State.pushFrame, State.setFrames_setFrames, State.setTop_of_frames _ hr', State.setFrames_setFrames]
  rw [hr]
  exact hrest
section XC
variable {p : Program} {l : Launch} {R : Room} {s : State} {m : MethodId} {args : Array Value} {below : List Frame} {meth : Method} {c : Code} {H : Heap} {locs : List Loc} {cells slots : Nat} {Q : State → Prop} {pc : Nat} {ls : Array Slot} {rest : List Value} {q : Addr} {ce : Cell}
theorem xx_catch {h : Nat} (hce : H[q]? = some ce) (hcv : ce.vm = .none) (hk0 : ∃ k, s.vm.classes[ce.cls]? = some k) (hsel : e.platform.magicAccessors = ({} : Platform).magicAccessors → Sel e s m.cls pc ce.cls c.exceptionTable.toList h) (kk : W p l e R s m args below meth c H locs cells slots Q (F0 m h ls [.ref q])) : XW p l e R s m args below meth c H locs cells slots Q (F0 m pc ls rest) q := by
  intro T hT Y
  obtain ⟨vm', hW, hf⟩ := go_sel (e := e) (f := F0 m pc ls rest) (a := q) (cell := ce) (fun k => by rw [hcv]; exact fun z => nomatch z) hk0 c.exceptionTable.toList h ((T.setTop (F0 m pc ls rest)).pushFrame (.throwing q)) Y.warmed (by show T.heap[q]? = some ce; rw [hT]; exact hce) (hsel (by rw [Y.admits.platform]))
  obtain ⟨t, a1, b1⟩ := kk (T.setVm vm') hT (Y.noted hW)
  exact ⟨t, caught_to (g := F0 m pc ls rest) Y.here (fun Q E d acts => by rw [W.findHandler_eq (meth := meth) (code := c) Y.method' Y.code]; exact hf Q E d acts) a1, b1⟩
end XC
end CAT
/-- which exceptions are no others -/
def NC (U : State) : Prop := va_Nc "java/lang/IllegalStateException" "java/lang/IllegalArgumentException" U ∧ va_Nc "java/lang/UnsupportedOperationException" "java/lang/IllegalArgumentException" U ∧ va_Nc "java/lang/UnsupportedOperationException" "java/lang/IllegalStateException" U
theorem NC.moved {u U : State} (hvm : u.vm.Alike U.vm) (h : NC u) : NC U := ⟨h.1.moved hvm, h.2.1.moved hvm, h.2.2.moved hvm⟩
theorem sel_hit {e : Env} {s : State} {own E : String} {d pc i : Nat} {thrown : ClassId} {x : ExceptionTableEntry} {t : List ExceptionTableEntry} (hpl : e.platform.magicAccessors = ({} : Platform).magicAccessors) (hown : s.vm.findClass own = some d) (hT : TB s) (hl : Cond.classLink own x.catchType E ∈ TT) (hc : Cond.castable E E ∈ TT) (ht : s.vm.findClass E = some thrown) (hx : covers x pc = true) (h0 : x.catchType ≠ 0) (hh : i = x.handlerPc) : Sel e s d pc thrown (x :: t) i := by
  obtain ⟨c9, h9, hcl⟩ := Cond.classLink_spec hown (hT.use (args := #[]) hl) e.platform hpl
  obtain ⟨c3, c4, g3, g4, hasg⟩ := Cond.castable_spec (hT.use (args := #[]) hc)
  cases Option.some.inj (g3.symm.trans ht)
  cases Option.some.inj (g4.symm.trans h9)
  exact ⟨hx, h0, _, hcl, Or.inl ⟨hasg, hh⟩⟩
theorem sel_pass {e : Env} {s : State} {own E N : String} {d pc i : Nat} {thrown : ClassId} {x : ExceptionTableEntry} {t : List ExceptionTableEntry} (hpl : e.platform.magicAccessors = ({} : Platform).magicAccessors) (hown : s.vm.findClass own = some d) (hT : TB s) (hl : Cond.classLink own x.catchType N ∈ TT) (hn : va_Nc E N s) (ht : s.vm.findClass E = some thrown) (hx : covers x pc = true) (h0 : x.catchType ≠ 0) (hs : Sel e s d pc thrown t i) : Sel e s d pc thrown (x :: t) i := by
  obtain ⟨c9, h9, hcl⟩ := Cond.classLink_spec hown (hT.use (args := #[]) hl) e.platform hpl
  obtain ⟨c3, c4, g3, g4, hasg⟩ := hn
  cases Option.some.inj (g3.symm.trans ht)
  cases Option.some.inj (g4.symm.trans h9)
  exact ⟨hx, h0, _, hcl, Or.inr ⟨hasg, hs⟩⟩
