/-! calls on a part of the world, the rest beside it -/
theorem vk_l {D : va_G} {cl : List vw_C} {t1 t2 : List (ClassId × FieldType)} {U : State} (h : va_K D cl (t1 ++ t2) U) : va_K D cl t1 U :=
  ⟨h.1, fun k q hk => h.2 k q (by rw [List.getElem?_append_left (List.getElem?_eq_some_iff.mp hk).1]; exact hk)⟩
theorem vk_r {D : va_G} {cl : List vw_C} {t1 t2 : List (ClassId × FieldType)} {U : State} (h : va_K D cl (t1 ++ t2) U) : va_K D cl t2 U :=
  ⟨h.1, fun k q hk => h.2 (t1.length + k) q (by rw [List.getElem?_append_right (Nat.le_add_right _ _), Nat.add_sub_cancel_left]; exact hk)⟩
section FRJ
variable {D : va_G} {cl : List vw_C} {A : Nat → Prop} {pre w post w' : va_W} {H H1 : Heap}
theorem at_mid {k : Nat} {q : Nat × va_E} (h : w[k]? = some q) : (pre ++ (w ++ post))[pre.length + k]? = some q := by
  rw [List.getElem?_append_right (Nat.le_add_right _ _), Nat.add_sub_cancel_left, List.getElem?_append_left (List.getElem?_eq_some_iff.mp h).1]
  exact h
theorem at_pre {k : Nat} {q : Nat × va_E} (h : pre[k]? = some q) : (pre ++ (w ++ post))[k]? = some q := by
  rw [List.getElem?_append_left (List.getElem?_eq_some_iff.mp h).1]
  exact h
theorem at_post {k : Nat} {q : Nat × va_E} (h : post[k]? = some q) : (pre ++ (w ++ post))[pre.length + (w.length + k)]? = some q := by
  rw [List.getElem?_append_right (Nat.le_add_right _ _), Nat.add_sub_cancel_left, List.getElem?_append_right (Nat.le_add_right _ _), Nat.add_sub_cancel_left]
  exact h
theorem vp_mid (h : va_P D cl (pre ++ (w ++ post)) H) : va_P D cl w H := fun k q hk => h _ q (at_mid hk)
theorem vd_mid (h : va_D A (pre ++ (w ++ post))) : va_D A w := ⟨fun i j x y hi hj hxy => by
  have h9 := h.1 _ _ x y (at_mid (pre := pre) (post := post) hi) (at_mid (pre := pre) (post := post) hj) hxy
  omega, fun k q hk => h.2 _ q (at_mid hk)⟩
theorem fr_join (hP : va_P D cl (pre ++ (w ++ post)) H) (hD : va_D A (pre ++ (w ++ post))) (hk : ∀ q : Nat, q < H.size → ¬ va_A w H.size q → H1[q]? = H[q]?) (hF : ∀ q, va_A w H.size q → A q) (hP1 : va_P D cl w' H1) (hD1 : va_D (va_A w H.size) w') :
    va_P D cl (pre ++ (w' ++ post)) H1 ∧ va_D A (pre ++ (w' ++ post)) := by
  have hlp : ∀ (i : Nat) (q : Nat × va_E), pre[i]? = some q → q.1 < H.size ∧ ¬ va_A w H.size q.1 := by
    intro i q hi
    have hl := (hP i q (at_pre hi)).lt
    have hi9 := (List.getElem?_eq_some_iff.mp hi).1
    refine ⟨hl, fun h => ?_⟩
    rcases h with ⟨j, e9, h⟩ | h
    · have h9 := hD.1 _ _ q (q.1, e9) (at_pre (w := w) (post := post) hi) (at_mid (pre := pre) (post := post) h) rfl
      omega
    · omega
  have hlq : ∀ (i : Nat) (q : Nat × va_E), post[i]? = some q → q.1 < H.size ∧ ¬ va_A w H.size q.1 := by
    intro i q hi
    have hl := (hP _ q (at_post hi)).lt
    refine ⟨hl, fun h => ?_⟩
    rcases h with ⟨j, e9, h⟩ | h
    · have hj9 := (List.getElem?_eq_some_iff.mp h).1
      have h9 := hD.1 _ _ q (q.1, e9) (at_post (pre := pre) (w := w) hi) (at_mid (pre := pre) (post := post) h) rfl
      omega
    · omega
  have hPp : va_P D cl pre H1 := fun i q hi => (hP i q (at_pre hi)).kept (hk q.1 (hlp i q hi).1 (hlp i q hi).2)
  have hPq : va_P D cl post H1 := fun i q hi => (hP _ q (at_post hi)).kept (hk q.1 (hlq i q hi).1 (hlq i q hi).2)
  have hDp : va_D A pre := ⟨fun i j x y hi hj hxy => hD.1 i j x y (at_pre hi) (at_pre hj) hxy, fun i q hi => hD.2 i q (at_pre hi)⟩
  have hDq : va_D A post := ⟨fun i j x y hi hj hxy => by
    have h9 := hD.1 _ _ x y (at_post (pre := pre) (w := w) hi) (at_post (pre := pre) (w := w) hj) hxy
    omega, fun i q hi => hD.2 _ q (at_post hi)⟩
  have hDw : va_D A w' := hD1.weaken (fun _ _ _ h => hF _ h)
  refine ⟨hPp.app (hP1.app hPq), hDp.app (hDw.app hDq (fun i j x y hi hj hxy => (hlq j y hj).2 (by rw [← hxy]; exact hD1.2 i x hi))) (fun i j x y hi hj hxy => ?_)⟩
  by_cases hl : j < w'.length
  · rw [List.getElem?_append_left hl] at hj
    exact (hlp i x hi).2 (by rw [hxy]; exact hD1.2 j y hj)
  · rw [List.getElem?_append_right (Nat.not_lt.mp hl)] at hj
    have hi9 := (List.getElem?_eq_some_iff.mp hi).1
    have h9 := hD.1 _ _ x y (at_pre (w := w) (post := post) hi) (at_post (pre := pre) (w := w) hj) hxy
    omega
end FRJ
section LAWR
variable {p : Program} {l : Launch} {e : Env} {R : Room} {s : State} {m : MethodId} {args : Array Value} {below : List Frame} {meth : Method} {c : Code} {H : Heap} {locs : List Loc} {cells slots : Nat} {Q : State → Prop}
variable {cc : ByteArray} {nL : Nat} {own : String} {D : va_G} {tys tyc : List (ClassId × FieldType)} {A : Nat → Prop} {pre w post w' : va_W} {pc : Nat} {ls : Array Slot} {rest st0 : List Value} {rt : Option FieldType}
theorem FX.on (X : FX p s m meth c cc nL rt own D tys A) (hK : va_K D cls tyc s) : FX p s m meth c cc nL rt own D tyc A := by
  obtain ⟨h1, h2, h3, h4, h5, h6, h7, -, h9⟩ := X
  exact ⟨h1, h2, h3, h4, h5, h6, h7, hK, h9⟩
theorem fg_runV {y : MethodName} {cd : ByteArray} {mL d idx n : Nat} {ret : Option FieldType} {C : String} {b : Nat} {As : List Value} {Qc : Array Value → State → Outcome → State → Prop} (X : FX p s m meth c cc nL rt own D tyc A) (hM : Met l y [.code y cd mL ret] (rmN d) (va_Pc (.ref b :: As) (fxP D tyc w H.size)) Qc 0 0 (va_A w H.size)) (hP : va_P D cls w H) (hD : va_D A w) (K : kV own idx C y cd mL ret n) (hR : (d + 1 ≤ R.frames ∧ 8 + (mL + 11) + 64 * d ≤ R.locals) ∧ cells ≤ R.cells ∧ slots ≤ R.slots) (q0 : Nat) {ci N : Nat} {T : u_T} {fs : List Value} (he : w[q0]? = some (b, .inr (ci, fs))) (hc : cls[ci]? = some (C, T, N))
    (hn : As.length = n) (hls : ls.size = nL) (hst : st0 = As.reverse ++ .ref b :: rest) (hW : (rest.map fun v => v.category).sum ≤ 8) (hdg : decode cc pc = .ok (.invokevirtual idx, 3)) :
    va_Run p l e R s m args below meth c H locs cells slots 0 0 (F0 m pc ls st0) rest (Qc (Value.ref b :: As).toArray) (va_A w H.size) := by
  obtain ⟨hx, hb, hml, hr, hlocks, hown, hT, hK, hA⟩ := X
  obtain ⟨hd, k1, k2, k3, k4, k5⟩ := K
  have hts : ∀ w9 ∈ wsV own idx C y [.code y cd mL ret], w9.before args s = true := by
    intro w9 h9
    simp only [wsV, List.mem_append, List.mem_cons, List.not_mem_nil, or_false] at h9
    rcases h9 with (rfl | rfl | rfl | rfl) | rfl
    · exact hT.use k1
    · exact hT.use k2
    · exact hT.use k3
    · exact hT.use k4
    · exact hT.use k5
  have hG : GoodIn (wsV own idx C y [.code y cd mL ret]) (wsV own idx C y [.code y cd mL ret]) := fun w9 h9 => ⟨h9, by
    simp only [wsV, List.mem_append, List.mem_cons, List.not_mem_nil, or_false] at h9
    rcases h9 with (rfl | rfl | rfl | rfl) | rfl <;> exact good_of_word rfl⟩
  exact va_runV (nL := nL) ⟨hx, hb, hml, hown, hts⟩ hM (cwV n hts hG rfl rfl rfl hd hR.1) ⟨fxP.blind, va_recv hK hP hc he, fun U hU hW9 => ⟨rfl, by rw [hU], hT.warm hW9, by rw [hU]; exact hP, va_K.moved hW9.alike hK, hD.weaken (fun _ _ _ _ => trivial)⟩⟩ rfl hn hls hst (lv_room hW) hdg ⟨hR.2.1, hR.2.2⟩
theorem fr_i {r : Int32} {a : Array Value} (X : FX p s m meth c cc nL rt own D tyc A) (hr : va_Run p l e R s m args below meth c H locs cells slots 0 0 (F0 m pc ls st0) rest (fxQi D tyc (va_A w H.size) w' r a) (va_A w H.size)) (hP : va_P D cls (pre ++ (w ++ post)) H) (hD : va_D A (pre ++ (w ++ post))) (hS : va_S A s.heap H locs)
    (kk : ∀ (H1 : Heap) (locs1 : List Loc), va_P D cls (pre ++ (w' ++ post)) H1 → va_D A (pre ++ (w' ++ post)) → va_S A s.heap H1 locs1 → W p l e R s m args below meth c H1 locs1 cells slots Q (F0 m (pc + 3) ls (.int r :: rest))) : W p l e R s m args below meth c H locs cells slots Q (F0 m pc ls st0) := by
  obtain ⟨hx, hb, hml, -, hlocks, hown, hT, hK, hA⟩ := X
  have hF := fx_sub (vd_mid hD) hS hA
  refine va_calli hr hS (fun q _ h => hF q h) hF (fun x u t H1 locs1 ht hvm hw hB hz1 hk1 hS1 => ?_)
  obtain ⟨b1, b2, b3, b4⟩ := hB
  rw [ht] at b1
  subst hw
  obtain ⟨j1, j2⟩ := fr_join hP hD hk1 hF b1 b4
  exact kk H1 locs1 j1 j2 hS1
theorem fr_v {a : Array Value} (X : FX p s m meth c cc nL rt own D tyc A) (hr : va_Run p l e R s m args below meth c H locs cells slots 0 0 (F0 m pc ls st0) rest (fxQv D tyc (va_A w H.size) w' a) (va_A w H.size)) (hP : va_P D cls (pre ++ (w ++ post)) H) (hD : va_D A (pre ++ (w ++ post))) (hS : va_S A s.heap H locs)
    (kk : ∀ (H1 : Heap) (locs1 : List Loc), va_P D cls (pre ++ (w' ++ post)) H1 → va_D A (pre ++ (w' ++ post)) → va_S A s.heap H1 locs1 → W p l e R s m args below meth c H1 locs1 cells slots Q (F0 m (pc + 3) ls rest)) : W p l e R s m args below meth c H locs cells slots Q (F0 m pc ls st0) := by
  obtain ⟨hx, hb, hml, -, hlocks, hown, hT, hK, hA⟩ := X
  have hF := fx_sub (vd_mid hD) hS hA
  refine va_callv hr hS (fun q _ h => hF q h) hF (fun u t H1 locs1 ht hvm hw hB hz1 hk1 hS1 => ?_)
  obtain ⟨b1, b2, b3, b4⟩ := hB
  rw [ht] at b1
  obtain ⟨j1, j2⟩ := fr_join hP hD hk1 hF b1 b4
  exact kk H1 locs1 j1 j2 hS1
theorem xf_V {y : MethodName} {cd : ByteArray} {mL d idx n k : Nat} {ret : Option FieldType} {C : String} {b : Nat} {As : List Value} {vo : Option Value} (X : FX p s m meth c cc nL rt own D tyc A) (hM : CX l y cd mL d ret D tyc w (.ref b :: As) k vo w') (hZ : ZS A s) (htr : l.stackTraces = false) (hP : va_P D cls (pre ++ (w ++ post)) H) (hD : va_D A (pre ++ (w ++ post))) (hS : va_S A s.heap H locs) (K : kV own idx C y cd mL ret n) (hR : (d + 1 ≤ R.frames ∧ 8 + (mL + 11) + 64 * d ≤ R.locals) ∧ cells + 1 ≤ R.cells ∧ slots + 6 ≤ R.slots) (q0 : Nat) {ci N : Nat} {T : u_T} {fs : List Value} (he : w[q0]? = some (b, .inr (ci, fs))) (hc : cls[ci]? = some (C, T, N))
    (hn : As.length = n) (hls : ls.size = nL) (hst : st0 = As.reverse ++ .ref b :: rest) (hW : (rest.map fun v => v.category).sum ≤ 8) (hdg : decode cc pc = .ok (.invokevirtual idx, 3))
    (kk : k = 0 → ∀ (H1 : Heap) (locs1 : List Loc), va_P D cls (pre ++ (w' ++ post)) H1 → va_D A (pre ++ (w' ++ post)) → va_S A s.heap H1 locs1 → W p l e R s m args below meth c H1 locs1 cells slots Q (F0 m (pc + 3) ls (vo.toList ++ rest)))
    (kx : k ≠ 0 → ∀ (H1 : Heap) (locs1 : List Loc) (q : Addr) (ce : Cell), va_P D cls (pre ++ (w' ++ post)) H1 → va_D A (pre ++ (w' ++ post)) → va_S A s.heap H1 locs1 → H1[q]? = some ce → ce.vm = .none → s.vm.findClass (EXC k) = some ce.cls → XW p l e R s m args below meth c H1 locs1 (cells + 1) (slots + 6) Q (F0 m pc ls rest) q) :
    W p l e R s m args below meth c H locs cells slots Q (F0 m pc ls st0) := by
  obtain ⟨hx, hb, hml, hr, hlocks, hown, hTB, hK, hA⟩ := X
  obtain ⟨hd, k1, k2, k3, k4, k5⟩ := K
  have hPw : va_P D cls w H := vp_mid hP
  have hDw : va_D A w := vd_mid hD
  have hF := fx_sub hDw hS hA
  intro U hU Y
  obtain ⟨hC, hy⟩ := hd
  subst hC
  obtain ⟨cellB, hcB, hoB, hclB⟩ := va_recv hK hPw hc he
  obtain ⟨mk, methM, hnamed, hmethM, hstM, habM⟩ := Cond.instanceMethod_spec (hTB.use (args := args) k2)
  obtain ⟨methM', cM, hmethM', -, -, -, -, -, -, hsigM⟩ := Cond.code_spec hnamed (hTB.use (args := args) k5)
  cases hmethM.symm.trans hmethM'
  obtain ⟨c2, r2, m2, q1, q2, q3, q4, kP, hkP, hkPi⟩ := Cond.selects_spec (hTB.use (args := args) k3)
  cases hclB.symm.trans q1
  cases (State.methodFound?_of_named hnamed ⟨hy.1, hy.2.1⟩).symm.trans q2
  cases hnamed.symm.trans q3
  have hselP : selectMethod e.platform s.vm cellB.cls mk = .method mk := by rw [Launch.admits_selectMethod Y.admits]; exact q4
  have hlen : As.length = methM.sig.parameters.length := by
    have h2 := hy.2.2
    rw [hsigM] at h2
    exact hn.trans (Option.some.inj h2).symm
  obtain ⟨vm₁, Y₁, hstep₁⟩ := Y.invokevirtual hx hown (hTB.use (args := args) k1) hnamed hmethM hstM hkP hkPi ⟨hy.1, hy.2.1⟩ (a := b) (cell := cellB) (by rw [hU]; exact hcB)
    (fun z h => by rw [h] at hoB; cases hoB) hselP hmethM habM hkP hkPi (g := F0 m pc ls st0) rfl (argsL := As) (rest := rest) hlen hst (by rw [hb]; exact hdg)
  have hsz : ls.size = c.maxLocals := hls.trans hml.symm
  have hh9 : (U.setVm vm₁).heap = H := hU
  obtain ⟨T', L, st, t, e0, e1, e2, hL, hB, hFr, Y', hend⟩ := xx_core (U := U.setVm vm₁) (hM H.size) Y₁ (g := F0 m pc ls rest) (ig := .invokevirtual idx) (len := 3) (a := (Value.ref b :: As).toArray) rfl hsz (by rw [hb]; exact hdg) (lv_room hW) (Y₁.named hnamed) hR.1.1 hR.1.2 hR.2.1 hR.2.2
    (fun a' V hV => (hTB.warm hV).use k5) (fun a' V hV => (hTB.warm hV).use k4)
    ⟨rfl, ⟨by rw [hh9], hTB.warm Y₁.warmed, by rw [hh9]; exact hPw, va_K.moved Y₁.warmed.alike hK, hDw.weaken (fun _ _ _ _ => trivial)⟩,
      hZ.step Y₁.warmed (by rw [hh9]; exact hS.1) (fun q h1 h2 => by rw [hh9]; exact hS.2.1 q h1 h2) (fun q _ h => hF q h), htr⟩
  have hst : st.heap = H := e0.trans hh9
  obtain ⟨b1, b2, b3, b4⟩ := hB
  obtain ⟨f1, f2⟩ := hFr
  rw [hst] at f1 f2
  have hS1 : va_S A s.heap t.heap (locs ++ L) := ⟨Nat.le_trans hS.1 f1, fun q h1 h2 => by rw [f2 q (Nat.lt_of_lt_of_le h1 hS.1) (fun z => h2 (hF q z))]; exact hS.2.1 q h1 h2, fun q hq => by
    rcases List.mem_append.mp hq with h | h
    · exact hS.2.2 q h
    · exact hF _ (hL q h)⟩
  obtain ⟨j1, j2⟩ := fr_join hP hD f2 hF b1 b4
  rcases hend with ⟨hk, hst9⟩ | ⟨hk, q, ce, hce, hcv, hcl, hst9⟩
  · have Y2 : Stand p l e R s m args below meth c T' (locs ++ L) cells slots := by
      have h9 := Y'
      rw [xn, xm, if_pos hk, if_pos hk] at h9
      exact h9
    obtain ⟨t2, a1, b9⟩ := kk hk t.heap (locs ++ L) j1 j2 hS1 T' e1 Y2
    exact ⟨t2, hstep₁ _ fun acts => by rw [doInvoke_state]; exact hst9.trans a1, b9⟩
  · have Y2 : Stand p l e R s m args below meth c T' (locs ++ L) (cells + 1) (slots + 6) := by
      have h9 := Y'
      rw [xn, xm, if_neg hk, if_neg hk] at h9
      exact h9
    obtain ⟨t2, a1, b9⟩ := kx hk t.heap (locs ++ L) q ce j1 j2 hS1 hce hcv hcl T' e1 Y2
    exact ⟨t2, hstep₁ _ fun acts => by rw [doInvoke_state]; exact hst9.trans a1, b9⟩
end LAWR
