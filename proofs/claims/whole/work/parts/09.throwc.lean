section THR3
variable {p : Program} {l : Launch} {e : Env} {R : Room} {s : State} {m : MethodId} {args : Array Value} {below : List Frame} {meth : Method} {c : Code} {H : Heap} {locs : List Loc} {Q : State → Prop}
variable {cc : ByteArray} {nL : Nat} {own : String} {D : va_G} {tys : List (ClassId × FieldType)} {A : Nat → Prop} {w : va_W} {pc : Nat} {ls : Array Slot} {rest : List Value} {rt : Option FieldType}
set_option maxHeartbeats 4000000 in
/-- 'throw new E("text")' by ldc -/
theorem xx_throwS {k ik is ic : Nat} {text : String} {vo : Option Value} {names : List String} (X : FX p s m meth c cc nL rt own D tys A) (hE : ∀ x ∈ c.exceptionTable.toList, False) (hZ : ZS A s) (htr : l.stackTraces = false) (hk : k ≠ 0) (hP : va_P D cls w H) (hD : va_D A w) (hS : va_S A s.heap H locs)
    (hcls : Bundle.fit (EXC k) = true) (hnames : ∀ n ∈ names, Bundle.fit n = true) (hat : ∀ x ∈ Bundle.ownAtoms own ic (EXC k) names, x ∈ TT ∨ x ∈ ZW) (hcl : Cond.classLink own ik (EXC k) ∈ TT) (hini : Cond.initialized (EXC k) ∈ TT) (hstr : Cond.stringRef own is text ∈ ZW)
    (hls : ls.size = nL) (d0 : decode cc pc = .ok (.new ik, 3)) (d3 : decode cc (pc + 3) = .ok (.dup, 1)) (d4 : decode cc (pc + 4) = .ok (.ldc is, 2)) (d6 : decode cc (pc + 4 + 2) = .ok (.invokespecial ic, 3)) (d9 : decode cc (pc + 4 + 2 + 3) = .ok (.athrow, 1))
    (hR : (names.length + 3 < R.frames ∧ 1 + (rest.map fun v => v.category).sum + (13 * (names.length + 1) + 42) ≤ R.locals) ∧ 1 ≤ R.cells ∧ 6 ≤ R.slots) :
    W p l e R s m args below meth c H locs 0 0 (XQ below D tys A w k vo s) (F0 m pc ls rest) := by
  obtain ⟨hx, hb, hml, hr, hlocks, hown, hTB, hK, hA⟩ := X
  intro T hT Y
  have hpl : e.platform.stackTraces = false := (show e.platform.stackTraces = l.stackTraces by rw [Y.admits.platform]).trans htr
  have Z := rebase Y (R' := { frames := R.frames, locals := R.locals, cells := 1, slots := 6 }) (Nat.le_refl _) (Nat.le_refl _) (by rw [Nat.zero_add]; exact hR.2.1) (by rw [Nat.zero_add]; exact hR.2.2)
  obtain ⟨s', hs'⟩ : ∃ z, z = (T.setVm s.vm).setFrames (.invoking m args :: below) := ⟨_, rfl⟩
  rw [← hs'] at Z
  have hvm : s'.vm = s.vm := by rw [hs']; rfl
  have hhp : s'.heap = H := by rw [hs']; exact hT
  have hW0 : s.WarmedH s'.vm := by rw [hvm]; exact State.WarmedH.refl s
  have hkeep : ∀ q : Nat, q < s.heap.size → ¬ A q → s'.heap[q]? = s.heap[q]? := fun q h1 h2 => by
    rw [hhp]
    exact hS.2.1 q h1 h2
  have hT' : TB s' := hTB.warm hW0
  have hzw : ∀ x ∈ ZW, x.before args s' = true := fun x h => hZ x h s' args hW0 (by rw [hhp]; exact hS.1) hkeep
  have hat' : ∀ x ∈ Bundle.ownAtoms own ic (EXC k) names, x.before args s' = true := by
    intro x hx9
    rcases hat x hx9 with h | h
    · exact hT'.use h
    · exact hzw x h
  have hown' : s'.vm.findClass own = some m.cls := by rw [hvm]; exact hown
  have hins : (Cond.instantiable (EXC k) 6).before args s' = true := hat' _ (by simp [Bundle.ownAtoms])
  obtain ⟨cX, kX, hfX, hkX, -, -, -, -⟩ := Cond.instantiable_spec hins
  obtain ⟨k9, cf9, i9, sa, -, -, -, -, -, hsa⟩ := Cond.stringRef_spec hown' (hzw _ hstr)
  have hv : vk_R own is text sa s' := vk_R.of (hzw _ hstr) hsa
  have inner : W p l e { frames := R.frames, locals := R.locals, cells := 1, slots := 6 } s' m args below meth c H [] 0 0 (XQ below D tys A w k vo s) (F0 m pc ls rest) := by
    refine W.newcK (C := EXC k) (n := 6) hx hb hown' (hT'.use hcl) hins (hT'.use hini) rfl d0 (Nat.le_refl _) (Nat.le_refl _) hfX rfl (fun H' kC hkC hblank hsz hold => ?_)
    refine W.eq (g2 := F0 m (pc + 3) ls (.ref H.size :: rest)) rfl ?_
    refine lv_dup hx hb d3 rfl ?_
    refine va_ldcS (q := sa) hx hb hown' hv d4 ?_
    intro T2 hT2 Y2
    obtain ⟨U, hsteps, hrun, hend, hWU, hsame, ce, hce, hO⟩ := Y2.ctorThrowS hx hpl (own := own) (cls := EXC k) (names := names) (ic := ic) hown' hcls hnames hat' (fun x hx => nomatch hx) hfX hkC (a := H.size) (by rw [hT2]; exact hblank) (by rw [hhp]; exact Nat.le_refl _) (msg := .ref sa) rfl
      (g := F0 m (pc + 4 + 2) ls (.ref sa :: .ref H.size :: .ref H.size :: rest)) rfl (hls.trans hml.symm) rfl rfl (rest := rest) rfl (by rw [hb]; exact d6) (by rw [hb]; exact d9) (fun x hx => (hE x hx).elim) hR.1.1
      (by
        have hcat : (Value.ref H.size).category = 1 := rfl
        show 2 * 0 + _ + _ ≤ _
        rw [List.map_cons, List.sum_cons, hcat]
        have h9 := hR.1.2
        show 2 * 0 + (1 + _) + _ ≤ R.locals
        omega) hlocks
    have hWs : s.WarmedH U.vm := State.WarmedH.trans hW0 hWU
    obtain ⟨e1, q2, q3, q4, q5, q6⟩ := id hsame
    rw [hhp] at q2
    have hkept : ∀ q : Nat, q < H.size → U.heap[q]? = H[q]? := by
      intro q hq
      have hq9 : q < s'.heap.size := by rw [hhp]; exact hq
      obtain ⟨c9, g1, g2, g3, g4⟩ := q6 q _ (Array.getElem?_eq_getElem hq9)
      have hs9 : c9.slots = (s'.heap[q]).slots := Array.ext_getElem? fun i => g4 i (fun h => nomatch h)
      have h9 : c9 = s'.heap[q] := by
        rw [hs9] at g2
        exact g2
      have g5 : U.heap[q]? = some c9 := g1
      rw [g5, h9, ← Array.getElem?_eq_getElem hq9, hhp]
    have hcl9 : s.vm.findClass (EXC k) = some ce.cls := by
      have h9 := hO.cls
      rw [hvm] at h9
      exact h9
    have hall : s.sameButNew ({ U with vm := s.vm } : State) locs (xn k) (xm k) := by
      subst hs'
      rw [State.setFrames_setFrames] at e1
      have h2 : (T.setVm s.vm).sameButNew ({ U with vm := s.vm } : State) [] (0 + 1) (0 + 6) := ⟨e1, hsame.2⟩
      have h3 := Y.same.trans h2
      rw [List.append_nil] at h3
      rw [xn, xm, if_neg hk, if_neg hk]
      exact h3
    refine ⟨U, hsteps, .threw H.size, hrun, hend, ⟨hP.kept (fun i q hi => hkept q.1 (hP i q hi).lt), va_K.moved hWs.alike hK, hTB.warm hWs, hD⟩, ⟨Nat.le_trans hS.1 q2, fun q h1 h2 => ?_⟩, hWs, ⟨locs, hall, hS.2.2⟩, Or.inr ⟨hk, H.size, ce, rfl, hce, hO.vm, hcl9⟩⟩
    rw [hkept q (Nat.lt_of_lt_of_le h1 hS.1)]
    exact hS.2.1 q h1 h2
  exact inner T hT Z
set_option maxHeartbeats 4000000 in
/-- 'throw new E("text")' by ldc_w -/
theorem xx_throwW {k ik is ic : Nat} {text : String} {vo : Option Value} {names : List String} (X : FX p s m meth c cc nL rt own D tys A) (hE : ∀ x ∈ c.exceptionTable.toList, False) (hZ : ZS A s) (htr : l.stackTraces = false) (hk : k ≠ 0) (hP : va_P D cls w H) (hD : va_D A w) (hS : va_S A s.heap H locs)
    (hcls : Bundle.fit (EXC k) = true) (hnames : ∀ n ∈ names, Bundle.fit n = true) (hat : ∀ x ∈ Bundle.ownAtoms own ic (EXC k) names, x ∈ TT ∨ x ∈ ZW) (hcl : Cond.classLink own ik (EXC k) ∈ TT) (hini : Cond.initialized (EXC k) ∈ TT) (hstr : Cond.stringRef own is text ∈ ZW)
    (hls : ls.size = nL) (d0 : decode cc pc = .ok (.new ik, 3)) (d3 : decode cc (pc + 3) = .ok (.dup, 1)) (d4 : decode cc (pc + 4) = .ok (.ldc_w is, 3)) (d6 : decode cc (pc + 4 + 3) = .ok (.invokespecial ic, 3)) (d9 : decode cc (pc + 4 + 3 + 3) = .ok (.athrow, 1))
    (hR : (names.length + 3 < R.frames ∧ 1 + (rest.map fun v => v.category).sum + (13 * (names.length + 1) + 42) ≤ R.locals) ∧ 1 ≤ R.cells ∧ 6 ≤ R.slots) :
    W p l e R s m args below meth c H locs 0 0 (XQ below D tys A w k vo s) (F0 m pc ls rest) := by
  obtain ⟨hx, hb, hml, hr, hlocks, hown, hTB, hK, hA⟩ := X
  intro T hT Y
  have hpl : e.platform.stackTraces = false := (show e.platform.stackTraces = l.stackTraces by rw [Y.admits.platform]).trans htr
  have Z := rebase Y (R' := { frames := R.frames, locals := R.locals, cells := 1, slots := 6 }) (Nat.le_refl _) (Nat.le_refl _) (by rw [Nat.zero_add]; exact hR.2.1) (by rw [Nat.zero_add]; exact hR.2.2)
  obtain ⟨s', hs'⟩ : ∃ z, z = (T.setVm s.vm).setFrames (.invoking m args :: below) := ⟨_, rfl⟩
  rw [← hs'] at Z
  have hvm : s'.vm = s.vm := by rw [hs']; rfl
  have hhp : s'.heap = H := by rw [hs']; exact hT
  have hW0 : s.WarmedH s'.vm := by rw [hvm]; exact State.WarmedH.refl s
  have hkeep : ∀ q : Nat, q < s.heap.size → ¬ A q → s'.heap[q]? = s.heap[q]? := fun q h1 h2 => by
    rw [hhp]
    exact hS.2.1 q h1 h2
  have hT' : TB s' := hTB.warm hW0
  have hzw : ∀ x ∈ ZW, x.before args s' = true := fun x h => hZ x h s' args hW0 (by rw [hhp]; exact hS.1) hkeep
  have hat' : ∀ x ∈ Bundle.ownAtoms own ic (EXC k) names, x.before args s' = true := by
    intro x hx9
    rcases hat x hx9 with h | h
    · exact hT'.use h
    · exact hzw x h
  have hown' : s'.vm.findClass own = some m.cls := by rw [hvm]; exact hown
  have hins : (Cond.instantiable (EXC k) 6).before args s' = true := hat' _ (by simp [Bundle.ownAtoms])
  obtain ⟨cX, kX, hfX, hkX, -, -, -, -⟩ := Cond.instantiable_spec hins
  obtain ⟨k9, cf9, i9, sa, -, -, -, -, -, hsa⟩ := Cond.stringRef_spec hown' (hzw _ hstr)
  have hv : vk_R own is text sa s' := vk_R.of (hzw _ hstr) hsa
  have inner : W p l e { frames := R.frames, locals := R.locals, cells := 1, slots := 6 } s' m args below meth c H [] 0 0 (XQ below D tys A w k vo s) (F0 m pc ls rest) := by
    refine W.newcK (C := EXC k) (n := 6) hx hb hown' (hT'.use hcl) hins (hT'.use hini) rfl d0 (Nat.le_refl _) (Nat.le_refl _) hfX rfl (fun H' kC hkC hblank hsz hold => ?_)
    refine W.eq (g2 := F0 m (pc + 3) ls (.ref H.size :: rest)) rfl ?_
    refine lv_dup hx hb d3 rfl ?_
    refine (fun k9 T9 hT9 Y9 => by
      obtain ⟨t9, a9, b9⟩ := k9 T9 hT9 Y9
      exact ⟨t9, Y9.ldcStringW hx hown' (text := text) (a := sa) hv.1 hv.2 (g := F0 m (pc + 3 + 1) ls (.ref H.size :: .ref H.size :: rest)) rfl (by rw [hb]; exact d4) t9 a9, b9⟩ : W p l e { frames := R.frames, locals := R.locals, cells := 1, slots := 6 } s' m args below meth c H' [] (0 + 1) (0 + 6) (XQ below D tys A w k vo s) (F0 m (pc + 4 + 3) ls (.ref sa :: .ref H.size :: .ref H.size :: rest)) → W p l e { frames := R.frames, locals := R.locals, cells := 1, slots := 6 } s' m args below meth c H' [] (0 + 1) (0 + 6) (XQ below D tys A w k vo s) (F0 m (pc + 3 + 1) ls (.ref H.size :: .ref H.size :: rest))) ?_
    intro T2 hT2 Y2
    obtain ⟨U, hsteps, hrun, hend, hWU, hsame, ce, hce, hO⟩ := Y2.ctorThrowS hx hpl (own := own) (cls := EXC k) (names := names) (ic := ic) hown' hcls hnames hat' (fun x hx => nomatch hx) hfX hkC (a := H.size) (by rw [hT2]; exact hblank) (by rw [hhp]; exact Nat.le_refl _) (msg := .ref sa) rfl
      (g := F0 m (pc + 4 + 3) ls (.ref sa :: .ref H.size :: .ref H.size :: rest)) rfl (hls.trans hml.symm) rfl rfl (rest := rest) rfl (by rw [hb]; exact d6) (by rw [hb]; exact d9) (fun x hx => (hE x hx).elim) hR.1.1
      (by
        have hcat : (Value.ref H.size).category = 1 := rfl
        show 2 * 0 + _ + _ ≤ _
        rw [List.map_cons, List.sum_cons, hcat]
        have h9 := hR.1.2
        show 2 * 0 + (1 + _) + _ ≤ R.locals
        omega) hlocks
    have hWs : s.WarmedH U.vm := State.WarmedH.trans hW0 hWU
    obtain ⟨e1, q2, q3, q4, q5, q6⟩ := id hsame
    rw [hhp] at q2
    have hkept : ∀ q : Nat, q < H.size → U.heap[q]? = H[q]? := by
      intro q hq
      have hq9 : q < s'.heap.size := by rw [hhp]; exact hq
      obtain ⟨c9, g1, g2, g3, g4⟩ := q6 q _ (Array.getElem?_eq_getElem hq9)
      have hs9 : c9.slots = (s'.heap[q]).slots := Array.ext_getElem? fun i => g4 i (fun h => nomatch h)
      have h9 : c9 = s'.heap[q] := by
        rw [hs9] at g2
        exact g2
      have g5 : U.heap[q]? = some c9 := g1
      rw [g5, h9, ← Array.getElem?_eq_getElem hq9, hhp]
    have hcl9 : s.vm.findClass (EXC k) = some ce.cls := by
      have h9 := hO.cls
      rw [hvm] at h9
      exact h9
    have hall : s.sameButNew ({ U with vm := s.vm } : State) locs (xn k) (xm k) := by
      subst hs'
      rw [State.setFrames_setFrames] at e1
      have h2 : (T.setVm s.vm).sameButNew ({ U with vm := s.vm } : State) [] (0 + 1) (0 + 6) := ⟨e1, hsame.2⟩
      have h3 := Y.same.trans h2
      rw [List.append_nil] at h3
      rw [xn, xm, if_neg hk, if_neg hk]
      exact h3
    refine ⟨U, hsteps, .threw H.size, hrun, hend, ⟨hP.kept (fun i q hi => hkept q.1 (hP i q hi).lt), va_K.moved hWs.alike hK, hTB.warm hWs, hD⟩, ⟨Nat.le_trans hS.1 q2, fun q h1 h2 => ?_⟩, hWs, ⟨locs, hall, hS.2.2⟩, Or.inr ⟨hk, H.size, ce, rfl, hce, hO.vm, hcl9⟩⟩
    rw [hkept q (Nat.lt_of_lt_of_le h1 hS.1)]
    exact hS.2.1 q h1 h2
  exact inner T hT Z
end THR3
theorem CX.fx {l : Launch} {y : MethodName} {cd : ByteArray} {mL d : Nat} {ret : Option FieldType} {D : va_G} {tys : List (ClassId × FieldType)} {w w' : va_W} {av : List Value} {k : Nat} {vo : Option Value}
    (hy : plainName y.cls = true) (hav : (lg_sl av).length ≤ mL)
    (body : ∀ (p : Program) (e : Env) (s : State) (m : MethodId) (below : List Frame) (meth : Method) (c : Code) (A : Nat → Prop) (ls : Array Slot), FX p s m meth c cd mL ret y.cls D tys A → (∀ x ∈ c.exceptionTable.toList, False) → ZS A s → l.stackTraces = false → va_P D cls w s.heap → va_D A w → lv_has ls mL (lv_args 0 av) →
      W p l e (rmX d) s m av.toArray below meth c s.heap [] 0 0 (XQ below D tys A w' k vo s) (F0 m 0 ls [])) :
    CX l y cd mL d ret D tys w av k vo w' := by
  intro sz
  refine MetFree.of_bodyS (code := cd) (maxLocals := mL) (ret := ret) hy ?_ ?_
  · intro args s m h hn
    obtain ⟨meth, c, h1, h2, h3, h4, h5, h6, -, -⟩ := Cond.code_spec hn (atoms_spec (ws := [.code y cd mL ret]) h _ List.mem_cons_self)
    exact ⟨meth, c, h1, h2, h3, h4, h5, h6⟩
  · intro p e s m args below meth c s₁ B hml hv _
    obtain ⟨rfl, ⟨hsz, hT, hP, hK, hD0⟩, hZ, htr⟩ := hv
    subst hsz
    have hE : ∀ x ∈ c.exceptionTable.toList, False := by
      obtain ⟨meth9, c9, h1, h2, -, -, -, -, h7, -⟩ := Cond.code_spec B.named (atoms_spec (ws := [.code y cd mL ret]) B.pre _ List.mem_cons_self)
      cases Option.some.inj (h1.symm.trans B.method)
      cases Option.some.inj (h2.symm.trans (Stand.of_body B).code)
      intro x hx
      rw [Array.isEmpty_iff.mp h7] at hx
      cases hx
    have hl := lv_entry av (n := mL) hav
    rw [lg_entry_eq]
    have hh0 : s₁.heap = s.heap := by rw [B.state]; rfl
    obtain ⟨t, a1, o, b1, b2, b3⟩ := body p e s m below meth c _ _ ⟨B.exec, B.bytes, hml, B.returns, B.notSynchronized, findClass_of_methodNamed B.named, hT, hK, fun q h => Or.inr h⟩ hE hZ htr hP hD0.self hl s₁ hh0 (Stand.of_body B)
    exact ⟨t, o, a1, b1, b2, b3⟩
