/-! constructors: a fresh object, what its constructor makes beside it -/
abbrev rmC (d mc ms : Nat) : Room := { frames := d, cells := mc, slots := ms, locals := 64 * d }
def cnP (D : va_G) (w : va_W) (sz : Nat) : State → Prop := fun U => U.heap.size = sz ∧ TB U ∧ va_P D cls w U.heap ∧ va_K D cls [] U ∧ va_D (fun _ => True) w
def cnQ {S : Type} (D : va_G) (A : Nat → Prop) (w' : S → va_W) (ty' : S → List (ClassId × FieldType)) : Array Value → State → Outcome → State → Prop :=
  va_Qv (S := S) (fun _ => True) (fun u t => va_P D cls (w' u) t.heap ∧ va_K D cls (ty' u) t ∧ TB t ∧ va_D A (w' u)) A
def CN {S : Type} (l : Launch) (y : MethodName) (cd : ByteArray) (mL d mc ms : Nat) (D : va_G) (b ci : Nat) (f0 As : List Value) (w' : S → va_W) (ty' : S → List (ClassId × FieldType)) : Prop :=
  ∀ sz : Nat, Met l y [.code y cd mL none] (rmC d mc ms) (va_Pc (.ref b :: As) (cnP D [(b, .inr (ci, f0))] sz)) (cnQ D (va_A [(b, .inr (ci, f0))] sz) w' ty') mc ms (va_A [(b, .inr (ci, f0))] sz)
theorem cnP.blind {D : va_G} {w : va_W} {sz : Nat} {av : List Value} : FrameBlind (va_Pc av (cnP D w sz)) := by
  intro a U g mk h
  obtain ⟨h0, h1, h2, h3, h4, h5⟩ := h
  exact ⟨h0, h1, h2.calling g mk a, h3, va_K.moved (u := U) (U := U.calling g mk a) (Vm.Alike.refl U.vm) h4, h5⟩
def kI (own : String) (idx : Nat) (y : MethodName) (cd : ByteArray) (mL n : Nat) : Prop :=
  (y.cls ≠ "java/lang/invoke/MethodHandle" ∧ y.cls ≠ "java/lang/invoke/VarHandle" ∧ (parseMethodDescriptor y.desc).map (fun d => d.parameters.length) = some n) ∧ y.name = "<init>" ∧ Cond.methodLink own idx y ∈ TT ∧ Cond.instanceMethod y ∈ TT ∧ Cond.initialized y.cls ∈ TT ∧ Cond.code y cd mL none ∈ TT
theorem CN.fx {S : Type} {l : Launch} {y : MethodName} {cd : ByteArray} {mL d mc ms : Nat} {D : va_G} {b ci : Nat} {f0 As : List Value} {w' : S → va_W} {ty' : S → List (ClassId × FieldType)}
    (hy : plainName y.cls = true) (hav : (lg_sl (.ref b :: As)).length ≤ mL)
    (body : ∀ (p : Program) (e : Env) (s : State) (m : MethodId) (below : List Frame) (meth : Method) (c : Code) (A : Nat → Prop) (ls : Array Slot), FX p s m meth c cd mL none y.cls D [] A → meth.name = y.name → va_P D cls [(b, .inr (ci, f0))] s.heap → va_D A [(b, .inr (ci, f0))] → lv_has ls mL (lv_args 0 (.ref b :: As)) →
      W p l e (rmC d mc ms) s m (Value.ref b :: As).toArray below meth c s.heap [] 0 0 (MQ below (cnQ D A w' ty') (Value.ref b :: As).toArray s mc ms A) (F0 m 0 ls [])) :
    CN l y cd mL d mc ms D b ci f0 As w' ty' := by
  intro sz
  refine Met.ofW (cc := cd) (maxL := mL) (ret := none) hy rfl ?_
  intro p e s m args below meth c s₁ B hml hv
  obtain ⟨rfl, hsz, hT, hP, hK, hD0⟩ := hv
  subst hsz
  have hl := lv_entry (.ref b :: As) (n := mL) hav
  rw [lg_entry_eq]
  exact body p e s m below meth c _ _ ⟨B.exec, B.bytes, hml, B.returns, B.notSynchronized, findClass_of_methodNamed B.named, hT, hK, fun q h => Or.inr h⟩ (name_of_methodNamed B.named B.method).1 hP hD0.self hl
section CTR
variable {p : Program} {l : Launch} {e : Env} {R : Room} {s : State} {m : MethodId} {args : Array Value} {below : List Frame} {meth : Method} {c : Code} {H : Heap} {locs : List Loc} {cells slots : Nat} {Q : State → Prop}
variable {cc : ByteArray} {nL : Nat} {own : String} {D : va_G} {tys ty0 : List (ClassId × FieldType)} {A : Nat → Prop} {pc : Nat} {ls : Array Slot} {rest st0 : List Value} {rt : Option FieldType}
theorem cx_call {S : Type} {y : MethodName} {cd : ByteArray} {mL d mc ms idx n b ci : Nat} {f0 As : List Value} {w' : S → va_W} {ty' : S → List (ClassId × FieldType)} {wr : va_W} (X : FX p s m meth c cc nL rt own D ty0 A) (hM : CN l y cd mL d mc ms D b ci f0 As w' ty') (K : kI own idx y cd mL n)
    (hK : va_K D cls tys s) (hP : va_P D cls (wr ++ [(b, .inr (ci, f0))]) H) (hD : va_D A (wr ++ [(b, .inr (ci, f0))])) (hS : va_S A s.heap H locs) (hR : (d + 1 ≤ R.frames ∧ 8 + (mL + 11) + 64 * d ≤ R.locals) ∧ cells + mc ≤ R.cells ∧ slots + ms ≤ R.slots)
    (hn : As.length = n) (hls : ls.size = nL) (hst : st0 = As.reverse ++ .ref b :: rest) (hW : (rest.map fun v => v.category).sum ≤ 8) (hdg : decode cc pc = .ok (.invokespecial idx, 3))
    (kk : ∀ (u : S) (H1 : Heap) (locs1 : List Loc), va_K D cls (tys ++ ty' u) s → va_P D cls (wr ++ w' u) H1 → va_D A (wr ++ w' u) → va_S A s.heap H1 locs1 → W p l e R s m args below meth c H1 locs1 (cells + mc) (slots + ms) Q (F0 m (pc + 3) ls rest)) :
    W p l e R s m args below meth c H locs cells slots Q (F0 m pc ls st0) := by
  obtain ⟨hx, hb, hml, hr, hlocks, hown, hTB, hK0, hA⟩ := X
  obtain ⟨hd, hin, k1, k2, k4, k5⟩ := K
  have hts : ∀ w9 ∈ [Cond.code y cd mL none], w9.before args s = true := by
    intro w9 h9
    rw [List.mem_singleton] at h9
    subst h9
    exact hTB.use k5
  have hlast : (wr ++ [(b, Sum.inr (ci, f0))])[wr.length]? = some (b, .inr (ci, f0)) := by simp
  have hleft : ∀ (i : Nat) (q : Nat × va_E), wr[i]? = some q → (wr ++ [(b, Sum.inr (ci, f0))])[i]? = some q ∧ i < wr.length := by
    intro i q hi
    have hlt := (List.getElem?_eq_some_iff.mp hi).1
    exact ⟨by rw [List.getElem?_append_left hlt]; exact hi, hlt⟩
  have hPb : va_P D cls [(b, .inr (ci, f0))] H := by
    intro i q hi
    have hi0 : i = 0 := by
      have := (List.getElem?_eq_some_iff.mp hi).1
      simp at this
      exact this
    subst hi0
    cases hi
    exact hP _ _ hlast
  have hDb : va_D (fun _ => True) ([(b, .inr (ci, f0))] : va_W) := by
    refine ⟨fun i j x y hi hj _ => ?_, fun _ _ _ => trivial⟩
    have h1 := (List.getElem?_eq_some_iff.mp hi).1
    have h2 := (List.getElem?_eq_some_iff.mp hj).1
    simp at h1 h2
    omega
  have hF : ∀ q, va_A [(b, .inr (ci, f0))] H.size q → A q := by
    intro q h
    rcases h with ⟨i, e9, h⟩ | h
    · have hi0 : i = 0 := by
        have := (List.getElem?_eq_some_iff.mp h).1
        simp at this
        exact this
      subst hi0
      cases h
      exact hD.2 _ _ hlast
    · exact hA q (Nat.le_trans hS.1 h)
  refine va_callv (va_runI (As := As) (rest := rest) (nL := nL) ⟨hx, hb, hml, hown, hts⟩ (hM H.size) (cwI n hts one_code rfl rfl rfl (hTB.use k4) (hTB.use k1) (hTB.use k2) hin hd hR.1) ⟨cnP.blind, fun U hU hW9 => ⟨rfl, by rw [hU], hTB.warm hW9, by rw [hU]; exact hPb, va_K.moved hW9.alike (hK.sub (tys' := []) [] rfl), hDb⟩⟩ rfl hn hls hst (lv_room hW) hdg hR.2) hS (fun q _ h => hF q h) hF (fun u t H1 locs1 ht hvm hw hB hz1 hk1 hS1 => ?_)
  obtain ⟨b1, b2, b3, b4⟩ := hB
  rw [ht] at b1
  have hapart : ∀ (i : Nat) (q : Nat × va_E), wr[i]? = some q → q.1 < H.size ∧ ¬ va_A [(b, .inr (ci, f0))] H.size q.1 := by
    intro i q hi
    obtain ⟨h1, h2⟩ := hleft i q hi
    have hlt := (hP i q h1).lt
    refine ⟨hlt, fun h => ?_⟩
    rcases h with ⟨j, e9, h⟩ | h
    · have hj0 : j = 0 := by
        have := (List.getElem?_eq_some_iff.mp h).1
        simp at this
        exact this
      subst hj0
      cases h
      have := hD.1 i wr.length q _ h1 hlast rfl
      omega
    · omega
  have hPr : va_P D cls wr H1 := fun i q hi => (hP i q (hleft i q hi).1).kept (hk1 q.1 (hapart i q hi).1 (hapart i q hi).2)
  have hDr : va_D A wr := ⟨fun i j x y hi hj hxy => hD.1 i j x y (hleft i x hi).1 (hleft j y hj).1 hxy, fun i q hi => hD.2 i q (hleft i q hi).1⟩
  exact kk u H1 locs1 (hK.app (va_K.moved hvm.symm b2)) (hPr.app b1) (hDr.app (b4.weaken (fun _ _ _ h => hF _ h)) (fun i j x y hi hj hxy => (hapart i x hi).2 (by rw [hxy]; exact b4.2 j y hj))) hS1
theorem cx_ret {S : Type} {w' : S → va_W} {ty' : S → List (ClassId × FieldType)} (u : S) (X : FX p s m meth c cc nL none own D ty0 A) (hK : va_K D cls (ty' u) s) (hP : va_P D cls (w' u) H) (hD : va_D A (w' u)) (hS : va_S A s.heap H locs) (hdg : decode cc pc = .ok (.return_, 1)) :
    W p l e R s m args below meth c H locs cells slots (MQ below (cnQ D A w' ty') args s cells slots A) (F0 m pc ls []) := by
  obtain ⟨hx, hb, -, hr, hlocks, -, hT, -, -⟩ := X
  exact W.vret hx hb hr (fun t ht hW => ⟨⟨u, rfl, trivial, by rw [ht]; exact hP, va_K.moved hW.alike hK, hT.warm hW, hD⟩, hS.F ht⟩) hS.2.2 hdg
end CTR
