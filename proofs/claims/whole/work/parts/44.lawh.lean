/-! the law's helpers: a call of the class, its exceptions caught -/
def wL (ad : Nat → Nat) (ca : Nat → ClassId) (adM : Nat → Nat) (caM : Nat → ClassId) (o : Nat) (cO : ClassId) (g gM : St) (f : Nat → Int64) : va_W := wF ad ca g ++ (wM adM caM gM ++ [(o, .inl (cO, (1, .inr (.inl f))))])
def tyL (ca : Nat → ClassId) (caM : Nat → ClassId) (cO : ClassId) : List (ClassId × FieldType) := tyF ca ++ (tyM caM ++ [(cO, .long)])
def HP (l : Launch) (D : va_G) (tys : List (ClassId × FieldType)) (w : va_W) (sz : Nat) (U : State) : Prop := fxP D tys w sz U ∧ ZS (va_A w sz) U ∧ NC U ∧ l.stackTraces = false
def HC (l : Launch) (y : MethodName) (cd : ByteArray) (mL : Nat) (hh : List (Nat × Nat × Nat × Nat)) (d : Nat) (D : va_G) (tys : List (ClassId × FieldType)) (w : va_W) (av : List Value) (r : Int32) (w' : va_W) : Prop :=
  ∀ sz : Nat, Met l y [.codeWith y cd mL (some .int) hh] (rmX d) (va_Pc av (HP l D tys w sz)) (fxQi D tys (va_A w sz) w' r) 1 6 (va_A w sz)
theorem HP.blind {l : Launch} {D : va_G} {tys : List (ClassId × FieldType)} {w : va_W} {sz : Nat} {av : List Value} : FrameBlind (va_Pc av (HP l D tys w sz)) := by
  intro a U g mk h
  obtain ⟨h0, h1, h2, h3, h4⟩ := h
  obtain ⟨i1, i2⟩ := fxP.blind (av := av) a U g mk ⟨h0, h1⟩
  exact ⟨i1, i2, h2.calling g mk a, NC.moved (u := U) (U := U.calling g mk a) (Vm.Alike.refl U.vm) h3, h4⟩
theorem HC.fx {l : Launch} {y : MethodName} {cd : ByteArray} {mL d : Nat} {hh : List (Nat × Nat × Nat × Nat)} {D : va_G} {tys : List (ClassId × FieldType)} {w w' : va_W} {av : List Value} {r : Int32}
    (hy : plainName y.cls = true) (hav : (lg_sl av).length ≤ mL)
    (body : ∀ (p : Program) (e : Env) (s : State) (m : MethodId) (below : List Frame) (meth : Method) (c : Code) (A : Nat → Prop) (ls : Array Slot), FX p s m meth c cd mL (some .int) y.cls D tys A → c.exceptionTable.toList = tableOf hh → ZS A s → NC s → l.stackTraces = false → va_P D cls w s.heap → va_D A w → lv_has ls mL (lv_args 0 av) →
      W p l e (rmX d) s m av.toArray below meth c s.heap [] 0 0 (MQ below (fxQi D tys A w' r) av.toArray s 1 6 A) (F0 m 0 ls [])) :
    HC l y cd mL hh d D tys w av r w' := by
  intro sz
  refine va_MetW (cc := cd) (maxL := mL) (ret := some .int) (hh := hh) hy rfl ?_
  intro p e s m args below meth c s₁ B hml hv
  obtain ⟨rfl, ⟨hsz, hT, hP, hK, hD0⟩, hZ, hN, htr⟩ := hv
  subst hsz
  have htab : c.exceptionTable.toList = tableOf hh := by
    obtain ⟨m9, meth9, c9, hn9, h1, h2, -, -, h6, -⟩ := Cond.codeWith_spec (atoms_spec (ws := [.codeWith y cd mL (some .int) hh]) B.pre _ List.mem_cons_self)
    cases Option.some.inj (hn9.symm.trans B.named)
    cases Option.some.inj (h1.symm.trans B.method)
    cases Option.some.inj (h2.symm.trans (Stand.of_body B).code)
    rw [← h6, table_eq]
  have hl := lv_entry av (n := mL) hav
  rw [lg_entry_eq]
  exact body p e s m below meth c _ _ ⟨B.exec, B.bytes, hml, B.returns, B.notSynchronized, findClass_of_methodNamed B.named, hT, hK, fun q h => Or.inr h⟩ htab hZ hN htr hP hD0.self hl
/-- the words of a call of a helper -/
def kW (own : String) (idx : Nat) (y : MethodName) (cd : ByteArray) (mL : Nat) (hh : List (Nat × Nat × Nat × Nat)) (n : Nat) : Prop :=
  (y.cls ≠ "java/lang/invoke/MethodHandle" ∧ y.cls ≠ "java/lang/invoke/VarHandle" ∧ (parseMethodDescriptor y.desc).map (fun d => d.parameters.length) = some n) ∧ Cond.methodLink own idx y ∈ TT ∧ Cond.static y ∈ TT ∧ Cond.initialized y.cls ∈ TT ∧ Cond.codeWith y cd mL (some .int) hh ∈ TT
section HLP
variable {p : Program} {l : Launch} {e : Env} {R : Room} {s : State} {m : MethodId} {args : Array Value} {below : List Frame} {meth : Method} {c : Code} {H : Heap} {locs : List Loc} {cells slots : Nat} {Q : State → Prop}
variable {cc : ByteArray} {nL : Nat} {own : String} {D : va_G} {tys : List (ClassId × FieldType)} {A : Nat → Prop} {w w' : va_W} {pc : Nat} {ls : Array Slot} {rest st0 : List Value} {rt : Option FieldType}
theorem hx_iret {r : Int32} (X : FX p s m meth c cc nL (some .int) own D tys A) (hP : va_P D cls w H) (hD : va_D A w) (hS : va_S A s.heap H locs) (hc : cells ≤ 1) (hs : slots ≤ 6) (hdg : decode cc pc = .ok (.ireturn, 1)) :
    W p l e R s m args below meth c H locs cells slots (MQ below (fxQi D tys A w r) args s 1 6 A) (F0 m pc ls [.int r]) := by
  obtain ⟨hx, hb, -, hr, hlocks, -, hT, hK, -⟩ := X
  refine W.widen (k := 1) (n := 6) hc hs ?_
  exact W.iret hx hb hr (fun t ht hW => ⟨⟨r, (), rfl, rfl, by rw [ht]; exact hP, va_K.moved hW.alike hK, hT.warm hW, hD⟩, hS.F ht⟩) hS.2.2 hdg
theorem hs_S {y : MethodName} {cd : ByteArray} {mL d idx n : Nat} {hh : List (Nat × Nat × Nat × Nat)} {As : List Value} {r : Int32} (X : FX p s m meth c cc nL rt own D tys A) (hM : HC l y cd mL hh d D tys w As r w') (hZ : ZS A s) (hN : NC s) (htr : l.stackTraces = false) (hP : va_P D cls w H) (hD : va_D A w) (hS : va_S A s.heap H locs) (K : kW own idx y cd mL hh n) (hR : (d + 1 ≤ R.frames ∧ 8 + (mL + 11) + 64 * d ≤ R.locals) ∧ cells + 1 ≤ R.cells ∧ slots + 6 ≤ R.slots)
    (hn : As.length = n) (hls : ls.size = nL) (hst : st0 = As.reverse ++ rest) (hW : (rest.map fun v => v.category).sum ≤ 8) (hdg : decode cc pc = .ok (.invokestatic idx, 3))
    (kk : ∀ (H1 : Heap) (locs1 : List Loc), va_P D cls w' H1 → va_D A w' → va_S A s.heap H1 locs1 → W p l e R s m args below meth c H1 locs1 (cells + 1) (slots + 6) Q (F0 m (pc + 3) ls (.int r :: rest))) : W p l e R s m args below meth c H locs cells slots Q (F0 m pc ls st0) := by
  obtain ⟨hx, hb, hml, hr, hlocks, hown, hT, hK, hA⟩ := X
  obtain ⟨hd, k1, k2, k4, k5⟩ := K
  have hF := fx_sub hD hS hA
  have hback : Back l R p e below s args y 3 8 (PreOf R 1 6 (va_Pc As (HP l D tys w H.size))) (PostOf (fxQi D tys (va_A w H.size) w' r) 1 6 (va_A w H.size)) :=
    va_backW (hh := hh) (bytes := cd) (maxL := mL) (ret := some .int) (hM H.size) HP.blind rfl rfl hR.1.1 hR.1.2 (fun w9 h9 a' U hU => by
      rw [List.mem_singleton] at h9
      subst h9
      exact (hT.warm hU).use k5) List.mem_cons_self (fun a' U hU => (hT.warm hU).use k4)
  have hrun : va_Run p l e R s m args below meth c H locs cells slots 1 6 (F0 m pc ls st0) rest (fxQi D tys (va_A w H.size) w' r As.toArray) (va_A w H.size) := by
    intro T hTH Y
    obtain ⟨mk, methM, cM, hnamed, hmethM, -, -, -, -, -, -, hsigM⟩ := Cond.codeWith_spec (hT.use (args := args) k5)
    have hstatic : methM.isStatic = true := Cond.static_spec hnamed hmethM (hT.use (args := args) k2)
    obtain ⟨kP, hkP, -⟩ := className_of_methodNamed hnamed
    have hinitP : kP.init = .initialized := Cond.initialized_spec (findClass_of_methodNamed hnamed) hkP (hT.use (args := args) k4)
    have hlen : As.length = methM.sig.parameters.length := by
      have h2 := hd.2.2
      rw [hsigM] at h2
      exact hn.trans (Option.some.inj h2).symm
    obtain ⟨vm₁, Y₁, hstep₁⟩ := Y.invokestatic hx hown (hT.use (args := args) k1) hnamed hmethM hstatic hkP hinitP ⟨hd.1, hd.2.1⟩ (g := F0 m pc ls st0) rfl (argsL := As) (rest := rest) hlen hst (by rw [hb]; exact hdg)
    have hh9 : (T.setVm vm₁).heap = H := hTH
    obtain ⟨v, ⟨U', l2, c2, s2⟩, Y', ⟨g', mk', t, L, e1, e2, hq, h1, hL, h2, h3⟩, hsteps⟩ := hback m meth c ⟨T.setVm vm₁, locs, cells, slots⟩ (F0 m pc ls rest) (.invokestatic idx) mk As.toArray Y₁ rfl (hls.trans hml.symm) (by rw [hb]; exact hdg) (lv_room hW) (Y₁.named hnamed)
      ⟨hR.2.1, hR.2.2, rfl, ⟨by rw [hh9], hT.warm Y₁.warmed, by rw [hh9]; exact hP, va_K.moved Y₁.warmed.alike hK, hD.weaken (fun _ _ _ _ => trivial)⟩,
        hZ.step Y₁.warmed (by rw [hh9]; exact hS.1) (fun q h1 h2 => by rw [hh9]; exact hS.2.1 q h1 h2) (fun q _ h => hF q h), NC.moved Y₁.warmed.alike hN, htr⟩
    dsimp only [Pt.U, Pt.locs, Pt.cells, Pt.slots] at Y' e1 e2 h1 h2 h3 hsteps
    subst h1; subst h2; subst h3
    exact ⟨v, (T.setVm vm₁).calling g' mk' As.toArray, t, U', L, hTH, Y', hL, e1, e2, hq, fun target h => hstep₁ _ fun acts => by rw [doInvoke_state]; exact hsteps.trans h⟩
  refine va_calli hrun hS (fun q _ h => hF q h) hF (fun x u t H1 locs1 ht hvm hw hB hz1 hk1 hS1 => ?_)
  obtain ⟨b1, b2, b3, b4⟩ := hB
  rw [ht] at b1
  subst hw
  exact kk H1 locs1 b1 (b4.weaken (fun _ _ _ h => hF _ h)) hS1
end HLP
