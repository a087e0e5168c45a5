section THR
variable {p : Program} {l : Launch} {e : Env} {R : Room} {s : State} {m : MethodId} {args : Array Value} {below : List Frame} {meth : Method} {c : Code} {H : Heap} {locs : List Loc} {cells slots : Nat} {Q : State → Prop}
variable {cc : ByteArray} {nL : Nat} {own : String} {D : va_G} {tys : List (ClassId × FieldType)} {A : Nat → Prop} {w w' : va_W} {pc : Nat} {ls : Array Slot} {rest st0 : List Value} {rt : Option FieldType}
/-- the walk seen from where it stands: as if the method were entered in this heap -/
theorem rebase {T : State} (X : Stand p l e R s m args below meth c T locs cells slots) {R' : Room} (hf : R'.frames ≤ R.frames) (hl : R'.locals ≤ R.locals) (hc : cells + R'.cells ≤ R.cells) (hs : slots + R'.slots ≤ R.slots) :
    Stand p l e R' ((T.setVm s.vm).setFrames (.invoking m args :: below)) m args below meth c T [] 0 0 := by
  have htop : (T.setVm s.vm).topJava?.isSome := X.here.top
  have hF : ((T.setVm s.vm).setFrames (.invoking m args :: below)).frames = .invoking m args :: below := State.frames_setFrames _ (State.cur_lt_of_top htop)
  obtain ⟨g₀, hg0⟩ := Option.isSome_iff_exists.mp htop
  obtain ⟨r, hr⟩ := State.topJava?_eq_some.mp hg0
  obtain ⟨z, hz, -⟩ := State.frames_cons hr
  have hdrop : (T.heap.toList.drop T.heap.size).map (·.slots.size) = [] := by rw [List.drop_eq_nil_of_le (Nat.le_of_eq Array.length_toList)]; rfl
  have hroom : ((T.setVm s.vm).setFrames (.invoking m args :: below)).hasRoom e.platform R' = true := by
    have h := X.room
    have q1 := X.heapSize
    have q2 := X.used
    have hU : ((T.setVm s.vm).setFrames (.invoking m args :: below)).localsInUse = s.localsInUse := by
      rw [State.localsInUse_invoking hF (meth := meth) (c := c) X.method X.code, State.localsInUse_invoking X.frames X.method X.code]
    have hl9 : e.platform.stackLimits (T.setVm s.vm).me = e.platform.stackLimits s.me := X.limits
    have hb9 : (T.setVm s.vm).me.stackBytes = s.me.stackBytes := X.bytes
    simp only [State.hasRoom, Bool.and_eq_true, decide_eq_true_eq] at h ⊢
    rw [X.frames, List.length_cons] at h
    rw [hF, hU, List.length_cons, State.stackLimits_setFrames, State.stackBytes_setFrames, hl9, hb9]
    obtain ⟨⟨⟨⟨h1, h2, h3, h4, h5, h6⟩, h7⟩, h8⟩, h9⟩ := h
    refine ⟨⟨⟨⟨by omega, by omega, by omega, by omega, by omega, h6⟩, ?_⟩, ?_⟩, X.book⟩
    · show T.heap.size + R'.cells ≤ e.platform.maxCells
      omega
    · show T.slotsUsed + R'.slots ≤ e.platform.maxSlots
      omega
  have hsame : ((T.setVm s.vm).setFrames (.invoking m args :: below)).sameButNew (T.setVm s.vm) [] 0 0 := by
    refine ⟨?_, Nat.le_refl _, Nat.le_refl _, ?_, ?_, fun a c9 h9 => ⟨c9, h9, rfl, rfl, fun _ _ => rfl⟩⟩
    · show T.setVm s.vm = { ((T.setVm s.vm).setFrames (.invoking m args :: below)).setFrames (T.setVm s.vm).frames with heap := T.heap, slotsUsed := T.slotsUsed }
      rw [State.setFrames_setFrames, State.setFrames_self hz]
      rfl
    · show T.slotsUsed = T.slotsUsed + ((T.heap.toList.drop T.heap.size).map (·.slots.size)).sum
      rw [hdrop]
      rfl
    · show ((T.heap.toList.drop T.heap.size).map (·.slots.size)).sum ≤ 0
      rw [hdrop]
      exact Nat.le_refl _
  exact ⟨X.admits, X.cas, X.clock, hF, hroom, X.hears, X.method, X.code, X.here, X.tail, X.warmed, by rw [State.stackLimits_setFrames]; rfl, by rw [State.stackBytes_setFrames]; rfl, hsame⟩
/-- the method's frame with q thrown over it -/
def XW (p : Program) (l : Launch) (e : Env) (R : Room) (s : State) (m : MethodId) (args : Array Value) (below : List Frame) (meth : Method) (c : Code) (H : Heap) (locs : List Loc) (cells slots : Nat) (Q : State → Prop) (g : JFrame) (q : Addr) : Prop :=
  ∀ T : State, T.heap = H → Stand p l e R s m args below meth c T locs cells slots → ∃ t, Steps p.tables e below ((T.setTop g).pushFrame (.throwing q)) t ∧ Q t
theorem xx_iret {r : Int32} (X : FX p s m meth c cc nL (some .int) own D tys A) (hP : va_P D cls w H) (hD : va_D A w) (hS : va_S A s.heap H locs) (hdg : decode cc pc = .ok (.ireturn, 1)) :
    W p l e R s m args below meth c H locs 0 0 (XQ below D tys A w 0 (some (.int r)) s) (F0 m pc ls [.int r]) := by
  intro T hT Y
  obtain ⟨t, h1, o, h2, h3, ⟨⟨r9, u9, h4, h5, h6⟩, h7⟩, L, h8, h9⟩ := fx_iret (r := r) (w := w) (l := l) (e := e) (R := R) (args := args) (below := below) (ls := ls) X hP hD hS hdg T hT Y
  subst h5
  exact ⟨t, h1, o, h2, h3, h6, h7, h8.2.1, ⟨L, h8.2.2, h9⟩, Or.inl ⟨rfl, h4⟩⟩
theorem xx_zret {r : Int32} (X : FX p s m meth c cc nL (some .boolean) own D tys A) (hP : va_P D cls w H) (hD : va_D A w) (hS : va_S A s.heap H locs) (hz : r = 0 ∨ r = 1) (hdg : decode cc pc = .ok (.ireturn, 1)) :
    W p l e R s m args below meth c H locs 0 0 (XQ below D tys A w 0 (some (.int r)) s) (F0 m pc ls [.int r]) := by
  intro T hT Y
  obtain ⟨t, h1, o, h2, h3, ⟨⟨r9, u9, h4, h5, h6⟩, h7⟩, L, h8, h9⟩ := fx_zret (r := r) (w := w) (l := l) (e := e) (R := R) (args := args) (below := below) (ls := ls) X hP hD hS hz hdg T hT Y
  subst h5
  exact ⟨t, h1, o, h2, h3, h6, h7, h8.2.1, ⟨L, h8.2.2, h9⟩, Or.inl ⟨rfl, h4⟩⟩
theorem xx_vret (X : FX p s m meth c cc nL none own D tys A) (hP : va_P D cls w H) (hD : va_D A w) (hS : va_S A s.heap H locs) (hdg : decode cc pc = .ok (.return_, 1)) :
    W p l e R s m args below meth c H locs 0 0 (XQ below D tys A w 0 none s) (F0 m pc ls []) := by
  intro T hT Y
  obtain ⟨t, h1, o, h2, h3, ⟨⟨u9, h4, h5, h6⟩, h7⟩, L, h8, h9⟩ := fx_vret (w := w) (l := l) (e := e) (R := R) (args := args) (below := below) (ls := ls) X hP hD hS hdg T hT Y
  exact ⟨t, h1, o, h2, h3, h6, h7, h8.2.1, ⟨L, h8.2.2, h9⟩, Or.inl ⟨rfl, h4⟩⟩
/-- nothing here takes it: the method ends by it -/
theorem xx_leave {k : Nat} {vo : Option Value} {q : Addr} {ce : Cell} (X : FX p s m meth c cc nL rt own D tys A) (hE : ∀ x ∈ c.exceptionTable.toList, False) (hk : k ≠ 0) (hP : va_P D cls w H) (hD : va_D A w) (hS : va_S A s.heap H locs) (hce : H[q]? = some ce) (hcv : ce.vm = .none) (hcl : s.vm.findClass (EXC k) = some ce.cls) (hc : cells ≤ 1) (hs : slots ≤ 6) :
    XW p l e R s m args below meth c H locs cells slots (XQ below D tys A w k vo s) (F0 m pc ls rest) q := by
  intro T hT Y
  obtain ⟨hx, hb, -, hr, hlocks, -, hTB, hK, -⟩ := X
  obtain ⟨h1, h2, h3, h4, h5⟩ := Y.leaveThrown q (g := F0 m pc ls rest) rfl rfl rfl (fun x hx => (hE x hx).elim) hlocks
  have hh : (T.setFrames (.throwing q :: below)).heap = H := hT
  refine ⟨_, h1, .threw q, h2, h3, ⟨by rw [hh]; exact hP, va_K.moved h4.alike hK, hTB.warm h4, hD⟩, hS.F hh, h4, ⟨locs, h5.mono (by rw [xn, if_neg hk]; exact hc) (by rw [xm, if_neg hk]; exact hs), hS.2.2⟩, Or.inr ⟨hk, q, ce, rfl, by rw [hh]; exact hce, hcv, hcl⟩⟩
section CALL
variable {y : MethodName} {cd : ByteArray} {mL d idx n k : Nat} {ret : Option FieldType} {C : String} {b : Nat} {As : List Value} {vo : Option Value}
theorem xx_V (X : FX p s m meth c cc nL rt own D tys A) (hM : CX l y cd mL d ret D tys w (.ref b :: As) k vo w') (hZ : ZS A s) (htr : l.stackTraces = false) (hP : va_P D cls w H) (hD : va_D A w) (hS : va_S A s.heap H locs) (K : kV own idx C y cd mL ret n) (hR : (d + 1 ≤ R.frames ∧ 8 + (mL + 11) + 64 * d ≤ R.locals) ∧ cells + 1 ≤ R.cells ∧ slots + 6 ≤ R.slots) (q0 : Nat) {ci N : Nat} {T : u_T} {fs : List Value} (he : w[q0]? = some (b, .inr (ci, fs))) (hc : cls[ci]? = some (C, T, N))
    (hn : As.length = n) (hls : ls.size = nL) (hst : st0 = As.reverse ++ .ref b :: rest) (hW : (rest.map fun v => v.category).sum ≤ 8) (hdg : decode cc pc = .ok (.invokevirtual idx, 3))
    (kk : k = 0 → ∀ (H1 : Heap) (locs1 : List Loc), va_P D cls w' H1 → va_D A w' → va_S A s.heap H1 locs1 → W p l e R s m args below meth c H1 locs1 cells slots Q (F0 m (pc + 3) ls (vo.toList ++ rest)))
    (kx : k ≠ 0 → ∀ (H1 : Heap) (locs1 : List Loc) (q : Addr) (ce : Cell), va_P D cls w' H1 → va_D A w' → va_S A s.heap H1 locs1 → H1[q]? = some ce → ce.vm = .none → s.vm.findClass (EXC k) = some ce.cls → XW p l e R s m args below meth c H1 locs1 (cells + 1) (slots + 6) Q (F0 m pc ls rest) q) :
    W p l e R s m args below meth c H locs cells slots Q (F0 m pc ls st0) := by
  obtain ⟨hx, hb, hml, hr, hlocks, hown, hTB, hK, hA⟩ := X
  obtain ⟨hd, k1, k2, k3, k4, k5⟩ := K
  have hF := fx_sub hD hS hA
  intro U hU Y
  obtain ⟨hC, hy⟩ := hd
  subst hC
  obtain ⟨cellB, hcB, hoB, hclB⟩ := va_recv hK hP hc he
  obtain ⟨mk, methM, hnamed, hmethM, hstM, habM⟩ := Cond.instanceMethod_spec (hTB.use (args := args) k2)
  obtain ⟨methM', cM, hmethM', -, -, -, -, -, -, hsigM⟩ := Cond.code_spec hnamed (hTB.use (args := args) k5)
  cases hmethM.symm.trans hmethM'
  obtain ⟨c2, r2, m2, q1, q2, q3, q4, kP, hkP, hkPi⟩ := Cond.selects_spec (hTB.use (args := args) k3)
  cases hclB.symm.trans q1
  cases (State.methodFound?_of_named hnamed ⟨hy.1, hy.2.1⟩).symm.trans q2
  cases hnamed.symm.trans q3
  have hselP : selectMethod e.platform s.vm cellB.cls mk = .method mk := by rw [Launch.admits_selectMethod Y.admits]; exact q4
  have hlen : As.length = methM.sig.parameters.length := by
    have h2 := hy.2.2
    rw [hsigM] at h2
    exact hn.trans (Option.some.inj h2).symm
  obtain ⟨vm₁, Y₁, hstep₁⟩ := Y.invokevirtual hx hown (hTB.use (args := args) k1) hnamed hmethM hstM hkP hkPi ⟨hy.1, hy.2.1⟩ (a := b) (cell := cellB) (by rw [hU]; exact hcB)
    (fun z h => by rw [h] at hoB; cases hoB) hselP hmethM habM hkP hkPi (g := F0 m pc ls st0) rfl (argsL := As) (rest := rest) hlen hst (by rw [hb]; exact hdg)
  have hsz : ls.size = c.maxLocals := hls.trans hml.symm
  have hh9 : (U.setVm vm₁).heap = H := hU
  obtain ⟨T', L, st, t, e0, e1, e2, hL, hB, hFr, Y', hend⟩ := xx_core (U := U.setVm vm₁) (hM H.size) Y₁ (g := F0 m pc ls rest) (ig := .invokevirtual idx) (len := 3) (a := (Value.ref b :: As).toArray) rfl hsz (by rw [hb]; exact hdg) (lv_room hW) (Y₁.named hnamed) hR.1.1 hR.1.2 hR.2.1 hR.2.2
    (fun a' V hV => (hTB.warm hV).use k5) (fun a' V hV => (hTB.warm hV).use k4)
    ⟨rfl, ⟨by rw [hh9], hTB.warm Y₁.warmed, by rw [hh9]; exact hP, va_K.moved Y₁.warmed.alike hK, hD.weaken (fun _ _ _ _ => trivial)⟩,
      hZ.step Y₁.warmed (by rw [hh9]; exact hS.1) (fun q h1 h2 => by rw [hh9]; exact hS.2.1 q h1 h2) (fun q _ h => hF q h), htr⟩
  have hst : st.heap = H := e0.trans hh9
  obtain ⟨b1, b2, b3, b4⟩ := hB
  obtain ⟨f1, f2⟩ := hFr
  rw [hst] at f1 f2
  have hS1 : va_S A s.heap t.heap (locs ++ L) := ⟨Nat.le_trans hS.1 f1, fun q h1 h2 => by rw [f2 q (Nat.lt_of_lt_of_le h1 hS.1) (fun z => h2 (hF q z))]; exact hS.2.1 q h1 h2, fun q hq => by
    rcases List.mem_append.mp hq with h | h
    · exact hS.2.2 q h
    · exact hF _ (hL q h)⟩
  have hD1 : va_D A w' := b4.weaken (fun _ _ _ h => hF _ h)
  rcases hend with ⟨hk, hst9⟩ | ⟨hk, q, ce, hce, hcv, hcl, hst9⟩
  · have Y2 : Stand p l e R s m args below meth c T' (locs ++ L) cells slots := by
      have h9 := Y'
      rw [xn, xm, if_pos hk, if_pos hk] at h9
      exact h9
    obtain ⟨t2, a1, b9⟩ := kk hk t.heap (locs ++ L) b1 hD1 hS1 T' e1 Y2
    exact ⟨t2, hstep₁ _ fun acts => by rw [doInvoke_state]; exact hst9.trans a1, b9⟩
  · have Y2 : Stand p l e R s m args below meth c T' (locs ++ L) (cells + 1) (slots + 6) := by
      have h9 := Y'
      rw [xn, xm, if_neg hk, if_neg hk] at h9
      exact h9
    obtain ⟨t2, a1, b9⟩ := kx hk t.heap (locs ++ L) q ce b1 hD1 hS1 hce hcv hcl T' e1 Y2
    exact ⟨t2, hstep₁ _ fun acts => by rw [doInvoke_state]; exact hst9.trans a1, b9⟩
end CALL
end THR
