/-! the class: rename -/
theorem nmc_up {e : Nat → Nat} {n v : Nat} (hn : n < NNM) : nmc (va_up e n v) + (if e n = 0 then 0 else 1) = nmc e + (if v = 0 then 0 else 1) := by
  have h := sm_up (f := fun i => if e i = 0 then 0 else 1) (i := n) (v := if v = 0 then 0 else 1) hn
  have e1 : sm (va_up (fun i => if e i = 0 then 0 else 1) n (if v = 0 then 0 else 1)) NNM = nmc (va_up e n v) := by
    unfold nmc
    refine sm_congr (fun i _ => ?_)
    by_cases c : i = n
    · rw [c, va_up_self, va_up_self]
    · rw [va_up_ne _ _ c, va_up_ne _ _ c]
  rw [e1] at h
  exact h
theorem nmc_cut {e : Nat → Nat} {n : Nat} (hn : n < NNM) (he : e n ≠ 0) : nmc (va_up e n 0) + 1 = nmc e := by
  have := nmc_up (v := 0) hn (e := e)
  rw [if_neg he, if_pos rfl] at this
  omega
theorem takeTwo_s {FU : Nat} (hF : 140000 < FU) {z : NSt} {A : AB} {PP : Nat → Nat} {ch : List Nat} (hc : FIC z A) (h : FIN z A 0 PP ch) (hd : A.dv = 2) {n m : Nat} (hnn : n < 2 ^ 32) (hmm : m < 2 ^ 32) :
    Ev (FF_takeTwoNames FU (nI n) (nI m) (up z)) fun r => ∃ y, r = (0, nI (if nmOk A.tp A.tl 0 n = true ∧ nmOk A.tp A.tl n m = true then 1 else 0), up y) ∧ FIC y (A.w_tl 0) ∧ FIN y (A.w_tl 0) 0 PP ch ∧ (nmOk A.tp A.tl 0 n = true ∧ nmOk A.tp A.tl n m = true → (nmA y 2 = nmN A.tp 0 n ∧ NL (nmA y 2) (y.2 2 5)) ∧ (nmA y 3 = nmN A.tp n m ∧ NL (nmA y 3) (y.2 3 5))) := by
  unfold FF_takeTwoNames
  rw [pwr_yes FU hc hd, Option.bind_some, if_pos rfl]
  refine (pack_s hF hc (Or.inl rfl) (at' := 0) (by decide) hnn).bd ?_
  rintro _ ⟨x, rfl, x1, x2, x3, x4⟩
  obtain ⟨c1, c2⟩ := hc.pk (Or.inl rfl) x1 x2 x3
  have fin : ∀ (v : Nat) (w : NSt), v ≤ 1 → FIC w A → WD w → w.1 = z.1 → (∀ a, 4 ≤ a → w.2 a = z.2 a) → Ev (FF_takeTwoNames_b41 FU (nI v) (up w)) fun r => r = (0, nI v, up (zI w 0 0)) ∧ FIC (zI w 0 0) (A.w_tl 0) ∧ FIN (zI w 0 0) (A.w_tl 0) 0 PP ch := fun v w hv w1 w2 w3 w4 => by
    unfold FF_takeTwoNames_b41 Row_setLength
    rw [nx_eq, show (0 : Int32) = nI 0 from rfl, up_I, Option.bind_some, if_pos (by
      rcases (show v = 0 ∨ v = 1 by omega) with q | q
      · rw [q]; exact Or.inl rfl
      · rw [q]; exact Or.inr rfl)]
    exact Ev.ret ⟨rfl, w1.setTl, h.rows (fun k k1 _ => by rw [zI1, if_neg (by omega), w3]) (fun a ha => by rw [zI2, w4 a ha]) w2 rfl rfl rfl rfl rfl rfl rfl rfl rfl⟩
  by_cases q : nmOk A.tp A.tl 0 n = true
  · obtain ⟨q1, q2, q3⟩ := nmOk_le q
    rw [if_pos q, if_neg (show ¬ nI 1 = (0 : Int32) by decide)]
    refine (pack_s hF c1 (Or.inr rfl) (at' := n) q2 hmm).bd ?_
    rintro _ ⟨w, rfl, w1, w2, w3, w4⟩
    obtain ⟨d1, d2⟩ := c1.pk (Or.inr rfl) w1 w2 w3
    by_cases p : nmOk A.tp A.tl n m = true
    · rw [if_pos p, if_neg (show ¬ nI 1 = (0 : Int32) by decide), if_pos ⟨q, p⟩]
      refine (fin 1 w (by decide) d1 d2 (by rw [w1, x1]) (fun a ha => by rw [w2 a (by omega), x2 a (by omega)])).mono ?_
      rintro _ ⟨rfl, f1, f2⟩
      refine ⟨_, rfl, f1, f2, fun _ => ⟨?_, w4 p⟩⟩
      have e : w.2 2 = x.2 2 := w2 2 (by decide)
      have := x4 q
      unfold nmA at this ⊢
      rw [zI2, e]
      exact this
    · rw [if_neg p, if_pos i00, if_neg (fun v => p v.2)]
      unfold FF_takeTwoNames_b40
      refine (fin 0 w (by decide) d1 d2 (by rw [w1, x1]) (fun a ha => by rw [w2 a (by omega), x2 a (by omega)])).mono ?_
      rintro _ ⟨rfl, f1, f2⟩
      exact ⟨_, rfl, f1, f2, fun v => absurd v.2 p⟩
  · rw [if_neg q, if_pos i00, if_neg (fun v => q v.1)]
    unfold FF_takeTwoNames_b40
    refine (fin 0 x (by decide) c1 c2 x1 (fun a ha => x2 a (by omega))).mono ?_
    rintro _ ⟨rfl, f1, f2⟩
    exact ⟨_, rfl, f1, f2, fun v => absurd v.1 q⟩
/-- a slot, and what it leads to -/
theorem slotId_s {FU : Nat} (hF : 140000 < FU) {z : NSt} {T R : TRE} {tk : TKS} {PP : Nat → Nat} {ch : List Nat} (h : NW z T R tk PP ch) {d a : Nat} (ha : a = 2 ∨ a = 3) (hd : T.kd d = 2) :
    ∃ r, Tre_slotOf FU a (nI d) (up z) = some r ∧ Tre_idIn FU (nI d) r (up z) = some (nI (T.ent d (nmA z a))) ∧ T.ent d (nmA z a) ≤ 250 ∧ (T.ent d (nmA z a) ≠ 0 → ∃ s, s < 48 ∧ r = nI s ∧ slN z d s = 1 + nmA z a) := by
  obtain ⟨r, e, q⟩ := look_s hF h ha hd
  refine ⟨r, e, ?_⟩
  rcases q with ⟨s, s1, rfl, s3, s4⟩ | ⟨rfl, s1⟩
  · obtain ⟨i1, i2, i3⟩ := idIn_s FU h hd s1 s3
    exact ⟨i1, i3, fun _ => ⟨s, s1, rfl, s3⟩⟩
  · rw [s1]
    exact ⟨idIn_m FU d _, Nat.zero_le _, fun w => absurd rfl w⟩
theorem movable_s (FU : Nat) {z : NSt} {T R : TRE} {tk : TKS} {PP : Nat → Nat} {ch : List Nat} (h : NW z T R tk PP ch) {id lost : Nat} (h1 : id ≤ 250) (h2 : lost ≤ 250) : FF_requireMovable FU (nI id) (nI lost) (up z) = some (if id = 0 ∨ (lost ≠ 0 ∧ (T.kd lost ≠ T.kd id ∨ (T.kd lost = 2 ∧ 0 < nmc (T.ent lost)))) then 2 else 0, 0, up z) := by
  have b51 : FF_requireMovable_b51 FU (nI lost) (nI (T.kd lost)) (up z) = some (if T.kd lost = 2 ∧ 0 < nmc (T.ent lost) then 2 else 0, 0, up z) := by
    unfold FF_requireMovable_b51
    have hkl := h.kle lost
    by_cases c : T.kd lost = 2
    · have hfull := h.tok.tfa.full _ c
      rw [c, if_pos (show nI 2 = (2 : Int32) from rfl), show (1 : Int32) = nI 1 from rfl, wordOf_n FU h.wk.pb (by omega) (by decide), Option.bind_some, (h.siz c).2]
      by_cases e : 0 < nmc (T.ent lost)
      · rw [if_neg (show ¬ nI (nmc (T.ent lost)) ≤ (0 : Int32) from fun w => by
          rw [show (0 : Int32) = nI 0 from rfl, nI_leI (by omega) (by decide)] at w
          omega), if_pos ⟨rfl, e⟩]
      · rw [if_pos (show nI (nmc (T.ent lost)) ≤ (0 : Int32) from nI_le (b := 0) (by omega) (by decide)), if_neg (fun w => e w.2)]
    · rw [if_neg (fun w : nI (T.kd lost) = (2 : Int32) => c ((nI_inj (b := 2) (by omega) (by decide)).mp w)), if_neg (fun w => c w.1)]
  have hki := h.kle id
  have hkl := h.kle lost
  unfold FF_requireMovable
  by_cases c0 : id = 0
  · rw [c0, if_pos i00, if_pos (Or.inl rfl)]
  · rw [if_neg (ne0_I (by omega) c0), h.kindOf FU (by omega), Option.bind_some]
    by_cases c1 : lost = 0
    · rw [if_pos (show nI lost = (0 : Int32) by rw [c1]; rfl), b51, if_neg (fun w => by
        rw [c1, h.kd00] at w
        omega), if_neg (fun w => by
        rcases w with w | w
        · exact c0 w
        · exact w.1 c1)]
    · rw [if_neg (ne0_I (by omega) c1), h.kindOf FU (by omega), Option.bind_some]
      by_cases c2 : T.kd lost = T.kd id
      · rw [if_pos (by rw [c2]), b51]
        by_cases c3 : T.kd lost = 2 ∧ 0 < nmc (T.ent lost)
        · rw [if_pos c3, if_pos (Or.inr ⟨c1, Or.inr c3⟩)]
        · rw [if_neg c3, if_neg (fun w => by
            rcases w with w | ⟨-, w | w⟩
            · exact c0 w
            · exact w c2
            · exact c3 w)]
      · rw [if_neg (fun w => c2 ((nI_inj (by omega) (by omega)).mp w)), if_pos (Or.inr ⟨c1, Or.inl c2⟩)]
theorem isInW_iff {T : TRE} {top : Nat} : ∀ (m d : Nat), (∃ k, k < m ∧ upN T k d = 1) → (isInW T top m d = true ↔ ∃ k, upN T k d = top ∧ ∀ j, j < k → upN T j d ≠ 1) := by
  intro m
  induction m with
  | zero =>
    rintro d ⟨k, hk, -⟩
    omega
  | succ m ih =>
    rintro d ⟨k, hk, e⟩
    unfold isInW
    by_cases c : d = top
    · rw [if_pos c]
      exact ⟨fun _ => ⟨0, c, fun j hj => by omega⟩, fun _ => rfl⟩
    · rw [if_neg c]
      by_cases c1 : d = 1
      · rw [if_pos c1]
        refine ⟨fun w => (by cases w), ?_⟩
        rintro ⟨i, h1, h2⟩
        cases i with
        | zero => exact absurd h1 c
        | succ i => exact absurd c1 (h2 0 (by omega))
      · rw [if_neg c1]
        cases k with
        | zero => exact absurd e c1
        | succ k =>
          rw [ih (T.par d) ⟨k, by omega, e⟩]
          constructor
          · rintro ⟨i, h1, h2⟩
            refine ⟨i + 1, h1, fun j hj => ?_⟩
            cases j with
            | zero => exact c1
            | succ j => exact h2 j (by omega)
          · rintro ⟨i, h1, h2⟩
            cases i with
            | zero => exact absurd h1 c
            | succ i => exact ⟨i, h1, fun j hj => h2 (j + 1) (by omega)⟩
theorem isWithin_s {FU : Nat} (hF : 140000 < FU) {z : NSt} {T R : TRE} {tk : TKS} {PP : Nat → Nat} {ch : List Nat} (h : NW z T R tk PP ch) (hA : ACY T) {top d : Nat} (ht1 : 1 ≤ top) (ht2 : top ≤ 250) (hd : T.kd d = 2) : Tre_isWithin FU (nI d) (nI top) (up z) = some (nI (if isInB T d top = true then 1 else 0)) := by
  have hm := hA.2.2.2 d hd
  obtain ⟨r, e, v, rfl, hv⟩ := isWithin_b FU h hA ht1 ht2 250 0 FU d (by omega) (by omega) hd hm
  have hi := isInW_iff (top := top) 250 d hm
  unfold Tre_isWithin
  rw [show (0 : Int32) = nI 0 from rfl, e]
  refine congrArg some (congrArg nI ?_)
  unfold isInB
  rcases hv with ⟨rfl, k, h1, h2⟩ | ⟨rfl, h1⟩
  · rw [if_pos (hi.mpr ⟨k, h1, h2⟩)]
  · rw [if_neg (fun w => by
      obtain ⟨k, a, b⟩ := hi.mp w
      exact h1 k b a)]
theorem target_s {FU : Nat} (hF : 140000 < FU) {z : NSt} {T R : TRE} {tk : TKS} {PP : Nat → Nat} {ch : List Nat} (h : NW z T R tk PP ch) (hA : ACY T) {d o id lost : Nat} (hd : T.kd d = 2) (ho : T.kd o = 2) (h1 : id ≤ 250) (h2 : lost ≤ 250) : FF_requireTarget FU (nI d) (nI o) (nI id) (nI lost) (up z) = some (if (lost = 0 ∧ o ≠ d ∧ 48 ≤ nmc (T.ent o)) ∨ (T.kd id = 2 ∧ isInB T o id = true) then 2 else 0, 0, up z) := by
  obtain ⟨-, d2, -⟩ := h.tok.rng d (by omega)
  obtain ⟨-, o2, -⟩ := h.tok.rng o (by omega)
  have hki := h.kle id
  have hfull := h.tok.tfa.full _ ho
  have b35 : FF_requireTarget_b35 FU (nI o) (nI id) (up z) = some (if T.kd id = 2 ∧ isInB T o id = true then 2 else 0, 0, up z) := by
    unfold FF_requireTarget_b35
    rw [h.kindOf FU (by omega), Option.bind_some]
    by_cases c : T.kd id = 2
    · obtain ⟨i1, -, -⟩ := h.tok.rng id (by omega)
      rw [if_pos (show nI (T.kd id) = (2 : Int32) by rw [c]; rfl), isWithin_s hF h hA i1 h1 ho, Option.bind_some]
      by_cases e : isInB T o id = true
      · rw [if_pos e, if_neg (show ¬ nI 1 = (0 : Int32) by decide), if_pos ⟨c, e⟩]
      · rw [if_neg e, if_pos i00, if_neg (fun w => e w.2)]
    · rw [if_neg (fun w : nI (T.kd id) = (2 : Int32) => c ((nI_inj (b := 2) (by omega) (by decide)).mp w)), if_neg (fun w => c w.1)]
  have fin : ¬ (lost = 0 ∧ o ≠ d ∧ 48 ≤ nmc (T.ent o)) → FF_requireTarget_b35 FU (nI o) (nI id) (up z) = some (if (lost = 0 ∧ o ≠ d ∧ 48 ≤ nmc (T.ent o)) ∨ (T.kd id = 2 ∧ isInB T o id = true) then 2 else 0, 0, up z) := fun hn => by
    rw [b35]
    by_cases c : T.kd id = 2 ∧ isInB T o id = true
    · rw [if_pos c, if_pos (Or.inr c)]
    · rw [if_neg c, if_neg (fun w => by
        rcases w with w | w
        · exact hn w
        · exact c w)]
  unfold FF_requireTarget
  by_cases c0 : lost = 0
  · rw [if_pos (show nI lost = (0 : Int32) by rw [c0]; rfl)]
    by_cases c1 : o = d
    · rw [if_pos (by rw [c1])]
      exact fin (fun w => w.2.1 c1)
    · rw [if_neg (fun w => c1 ((nI_inj (by omega) (by omega)).mp w)), show (1 : Int32) = nI 1 from rfl, wordOf_n FU h.wk.pb (by omega) (by decide), Option.bind_some, (h.siz ho).2]
      by_cases c2 : 48 ≤ nmc (T.ent o)
      · rw [if_neg (show ¬ nI (nmc (T.ent o)) < (48 : Int32) from fun w => by
          rw [show (48 : Int32) = nI 48 from rfl, nI_ltI (by omega) (by decide)] at w
          omega), if_pos (Or.inl ⟨c0, c1, c2⟩)]
      · rw [if_pos (show nI (nmc (T.ent o)) < (48 : Int32) from nI_lt (b := 48) (by omega) (by decide))]
        exact fin (fun w => c2 w.2.2)
  · rw [if_neg (ne0_I (by omega) c0)]
    exact fin (fun w => c0 w.1)
theorem lose_s {FU : Nat} (hF : 140000 < FU) {z : NSt} {T R : TRE} {tk : TKS} {PP : Nat → Nat} {ch : List Nat} (h : NW z T R tk PP ch) (hU : 33 ≤ Uz z) (hse : z.1 11 < 2 ^ 32) {x : Nat} (hk : T.kd x ≠ 0) (hl : T.kd x = 1 → T.lk x < 2 ^ 31) (h0 : T.kd x = 2 → nmc (T.ent x) = 0) :
    Ev (FF_lose FU (nI x) (up z)) fun r => ∃ y ch', r = up y ∧ NW y (T.lose x) R tk PP ch' ∧ FR z y ∧ y.2 8 = (if T.kd x = 2 then z.2 8 else va_up (z.2 8) x 1) ∧ Uz z ≤ Uz y + 1 ∧ Uz y ≤ Uz z ∧ KC y = KC z := by
  obtain ⟨g1, g2, g3⟩ := h.tok.rng x hk
  unfold FF_lose TRE.lose
  rw [h.kindOf FU (by omega), Option.bind_some]
  by_cases c : T.kd x = 2
  · rw [if_pos (show nI (T.kd x) = (2 : Int32) by rw [c]; rfl), if_pos c, if_pos c]
    refine (dropDir_s FU h c (by rw [(h.siz c).1]; exact h0 c)).bd ?_
    rintro _ ⟨v, rfl, v1, v2, v3, v4, v5⟩
    exact Ev.ret ⟨v, ch, rfl, v1, v2, v3, by omega, by omega, v5⟩
  · have c1 : T.kd x = 1 := by omega
    rw [if_neg (show ¬ nI (T.kd x) = (2 : Int32) by rw [c1]; decide), if_neg c, if_neg c]
    refine (loseLink_s hF h hU hse c1 (hl c1)).bd ?_
    rintro _ ⟨v, ch', rfl, v1, v2, v3, v4, v5, v6⟩
    exact Ev.ret ⟨v, ch', rfl, v1, v2, v3, v4, v5, v6⟩
theorem moved_u {FU : Nat} (hF : 140000 < FU) {z : NSt} {T R : TRE} {tk : TKS} {PP : Nat → Nat} {ch : List Nat} (h : NW z T R tk PP ch) (hU : 33 ≤ Uz z) (hse : z.1 11 < 2 ^ 32) {id d : Nat} (hk : T.kd id ≠ 0) (hd : d ≤ 250) :
    Ev (Tre_moved FU (nI id) (nI d) (up z)) fun r => ∃ y ch', r = up y ∧ NW y (T.moved id d) R tk PP ch' ∧ FR z y ∧ y.2 8 = (if T.kd id = 1 then va_up (z.2 8) id 1 else z.2 8) ∧ Uz z ≤ Uz y + 1 ∧ Uz y ≤ Uz z ∧ KC y = KC z := by
  obtain ⟨g1, g2, g3⟩ := h.tok.rng id hk
  have hi := h.tok.ids id g1 g2
  unfold Tre_moved TRE.moved
  rw [Tre_kindOf_z FU h.wk.pb (by omega), Option.bind_some, h.kind]
  by_cases c : T.kd id = 1
  · rw [if_pos c, if_pos c, c, if_pos i11, Tab_stir_z FU z (by omega), Option.bind_some]
    have : Uz (stirZ id z) = Uz z := Uz_frame (fun k _ _ => by rw [(stir_8 g1 g2).2.1])
    exact Ev.ret ⟨stirZ id z, ch, rfl, h.stir g1 g2, (FR.rf z).stir g1 g2, (stir_8 g1 g2).1, by omega, by omega, KC_congr ((stir_8 g1 g2).2.2 7 (by decide))⟩
  · have c2 : T.kd id = 2 := by omega
    obtain ⟨-, hpar, -⟩ := hi.dir c2
    have hp32 : T.par id < 2 ^ 32 := by
      rw [← hpar, zV_W (by decide)]
      exact h.wk.wd 4 (by decide) (by decide) _
    rw [if_neg c, if_neg c, c2, if_neg (by decide), show (2 : Int32) = nI 2 from rfl, Tre_wordOf_z FU h.wk.pb (by omega) (by decide), Option.bind_some, h.wI hk (by decide), hpar]
    by_cases e : T.par id = d
    · rw [if_pos (by rw [e])]
      have et : (T.wPar (va_up T.par id d)) = T := by
        rw [up_same e]
        rfl
      refine Ev.ret ⟨z, ch, rfl, ?_, FR.rf z, rfl, by omega, by omega, rfl⟩
      rw [et]; exact h
    · rw [if_neg (fun q => e ((nI_inj hp32 (by omega)).mp q))]
      refine (putWord_s (T' := (T.wPar (va_up T.par id d))) hF h hU hse hk (by omega) (fun i hi => ⟨rfl, rfl, va_up_ne _ _ hi, rfl, rfl⟩) rfl rfl rfl (fun q => by omega) (fun _ => va_up_self _ _ _)).bd ?_
      rintro _ ⟨y, ch', rfl, n1, n2, n3, n4, n5⟩
      exact Ev.ret ⟨y, ch', rfl, n1, n2, n3, by omega, by omega, KC_congr n5⟩
theorem ren155_s {FU : Nat} (hF : 140000 < FU) {x : NSt} {T R : TRE} {tk : TKS} {PP : Nat → Nat} {ch : List Nat} (h : NW x T R tk PP ch) (hU : 40 ≤ Uz x) (hse : x.1 11 < 2 ^ 32) {o id n : Nat} (ho : T.kd o = 2) (hid : T.kd id ≠ 0) (hnm : nmA x 3 = n) (hnl : NL n (x.2 3 5)) (hen : T.ent o n = 0) (hfl : nmc (T.ent o) < 48) :
    Ev (FF_rename_b155 FU (nI o) (nI id) (up x)) fun r => ∃ y ch', r = (0, 0, up y) ∧ NW y ((T.put o n id).moved id o) R tk PP ch' ∧ FR x y ∧ y.2 8 = (if T.kd id = 1 then va_up (x.2 8) id 1 else x.2 8) ∧ Uz x ≤ Uz y + 3 ∧ Uz y ≤ Uz x ∧ KC y = KC x := by
  obtain ⟨g1, g2, g3⟩ := h.tok.rng id hid
  obtain ⟨-, o2, -⟩ := h.tok.rng o (by omega)
  unfold FF_rename_b155
  refine (addName_s hF h (by omega) hse (a := 3) (Or.inr rfl) ho g1 g2 (by rw [hnm]; exact hnl) (by rw [hnm]; exact hen) (by rw [(h.siz ho).1]; exact hfl)).bd ?_
  rintro _ ⟨y, ch1, rfl, y1, y2, y3, y4, y5⟩
  rw [hnm] at y1
  refine (moved_u hF y1 (by omega) (by rw [y2.s11]; exact hse) (id := id) (d := o) hid o2).bd ?_
  rintro _ ⟨w, ch2, rfl, w1, w2, w3, w4, w5, w6⟩
  refine Ev.ret ⟨w, ch2, rfl, w1, y2.trans w2, ?_, by omega, by omega, by rw [w6]; exact KC_congr y5⟩
  rw [w3, y3]
  rfl
theorem FIN.wk0 {z : NSt} {A : AB} {s : Nat} {PP : Nat → Nat} {ch : List Nat} (h : FIN z A s PP ch) : FIN z A 0 PP ch := by
  have a := h.uz
  obtain ⟨b, c⟩ := h.kc
  exact ⟨h.nw, h.pi, h.st, h.s16, h.s17, h.s18, h.s19, by omega, ⟨by omega, by omega⟩, h.se, h.rs, h.u28⟩
theorem lose_kd {T : TRE} {f g : Nat} (h : g ≠ f) : (T.lose f).kd g = T.kd g := by
  unfold TRE.lose
  split
  · exact va_up_ne _ _ h
  · exact loose_kd h
theorem lose_ent {T : TRE} {f : Nat} : (T.lose f).ent = T.ent := by
  unfold TRE.lose TRE.loose
  split
  · rfl
  · split <;> rfl
theorem moved_kd {T : TRE} {f d : Nat} : (T.moved f d).kd = T.kd := by
  unfold TRE.moved
  split <;> rfl
theorem put_kd (T : TRE) (d n v : Nat) : (T.put d n v).kd = T.kd := rfl
theorem put_lk (T : TRE) (d n v : Nat) : (T.put d n v).lk = T.lk := rfl
theorem put_en (T : TRE) (d n v : Nat) : (T.put d n v).ent d n = v := by
  show va_up T.ent d (va_up (T.ent d) n v) d n = v
  rw [va_up_self, va_up_self]
theorem put_e1 (T : TRE) {d n v m : Nat} (h : m ≠ n) : (T.put d n v).ent d m = T.ent d m := by
  show va_up T.ent d (va_up (T.ent d) n v) d m = _
  rw [va_up_self, va_up_ne _ _ h]
theorem put_e2 (T : TRE) {d n v e : Nat} (h : e ≠ d) : (T.put d n v).ent e = T.ent e := va_up_ne _ _ h
theorem put_es (T : TRE) (d n v : Nat) : (T.put d n v).ent d = va_up (T.ent d) n v := va_up_self _ _ _
/-- behind the reserve of a rename -/
theorem renAct_s {FU : Nat} (hF : 140000 < FU) {w : NSt} {B : AB} {PP : Nat → Nat} {ch : List Nat} (w1 : FIC w B) (w2 : B.dv = 2) (w3 : FIN w B 8 PP ch) (w4 : AI B 8) (htB : B.tk ≤ 3000) {d o n1 n2 s t : Nat} (hd : B.T.kd d = 2) (ho : B.T.kd o = 2) (hnm : nmA w 3 = n2) (hnl : NL n2 (w.2 3 5)) (hn1 : n1 < NNM) (hs : s < 48) (hsl : slN w d s = 1 + n1) (ht : B.T.ent o n2 ≠ 0 → t < 48 ∧ slN w o t = 1 + n2) (hne : B.T.ent d n1 ≠ 0) (hid : B.T.ent d n1 ≠ B.T.ent o n2) (hmv : B.T.ent o n2 ≠ 0 → B.T.kd (B.T.ent o n2) = B.T.kd (B.T.ent d n1) ∧ ¬ (B.T.kd (B.T.ent o n2) = 2 ∧ 0 < nmc (B.T.ent (B.T.ent o n2)))) (htg : ¬ (B.T.ent o n2 = 0 ∧ o ≠ d ∧ 48 ≤ nmc (B.T.ent o))) (y6 : Int32) (hy6 : B.T.ent o n2 ≠ 0 → y6 = nI t) :
    Ans ((Tre_dropName FU (nI d) (nI s) (up w)).bind fun p4 => (if nI (B.T.ent o n2) = 0 then FF_rename_b155 FU (nI o) (nI (B.T.ent d n1)) p4 else (Tre_dropName FU (nI o) y6 p4).bind fun p5 => (FF_lose FU (nI (B.T.ent o n2)) p5).bind fun p6 => FF_rename_b155 FU (nI o) (nI (B.T.ent d n1)) p6)) (0, 0, (B.w_T (B.T.ren d n1 o n2 (B.T.ent d n1) (B.T.ent o n2))).w_rn (va_up (if B.T.ent o n2 = 0 then B.rn else va_up B.rn (B.T.ent o n2) true) (B.T.ent d n1) true)) := by
  obtain ⟨id, eid⟩ : ∃ id, id = B.T.ent d n1 := ⟨_, rfl⟩
  obtain ⟨lost, elo⟩ : ∃ lost, lost = B.T.ent o n2 := ⟨_, rfl⟩
  have hen : B.T.ent o n2 = lost := elo.symm
  rw [← eid, ← elo] at hid hmv ⊢
  rw [← elo] at ht htg hy6
  rw [← eid] at hne
  have hn2 := NL_lt hnl
  have hu := w3.u162
  have hse := w3.se32 htB
  have hkid : B.T.kd id ≠ 0 := by
    have := (w4.tw.tg d n1 (by rw [← eid]; exact hne)).1
    rw [← eid] at this
    exact this
  have hful := w3.nw.tok.tfa.full o ho
  have hi1 := (w3.nw.tok.rng id hkid)
  refine (dropName_n hF w3.nw (by omega) hse hd hs hsl).bd ?_
  rintro _ ⟨x, ch1, rfl, x1, x2, x3, x4, x5, x6⟩
  have fin : ∀ (T3 : TRE) (v : NSt) (ch3 : List Nat), NW v T3 B.R (B.tk, B.S) PP ch3 → FR w v → T3 = (if lost = 0 then B.T.put d n1 0 else ((B.T.put d n1 0).put o n2 0).lose lost) → T3.kd o = 2 → T3.kd id = B.T.kd id → T3.ent o n2 = 0 → nmc (T3.ent o) < 48 → v.2 8 = (if lost = 0 then w.2 8 else if B.T.kd lost = 2 then w.2 8 else va_up (w.2 8) lost 1) → Uz w ≤ Uz v + 3 → KC v + Uz v ≤ KC w + Uz w → (∀ f, T3.kd f = 1 → B.T.kd f = 1 ∧ (lost ≠ 0 → f = lost → B.T.kd lost ≠ 2)) → Ans (FF_rename_b155 FU (nI o) (nI id) (up v)) (0, 0, (B.w_T (B.T.ren d n1 o n2 id lost)).w_rn (va_up (if lost = 0 then B.rn else va_up B.rn lost true) id true)) := fun T3 v ch3 v1 v2 v3 v4 v5 v6 v7 v8 v9 v10 v11 => by
    refine (ren155_s hF v1 (by omega) (by rw [v2.s11]; exact hse) (o := o) (id := id) (n := n2) v4 (by rw [v5]; exact hkid) (by rw [FR_names v2 (by decide)]; exact hnm) (by rw [v2.2 3 (by decide)]; exact hnl) v6 v7).mono ?_
    rintro _ ⟨u, ch4, rfl, u1, u2, u3, u4, u5, u6⟩
    have fr := v2.trans u2
    have eT : (T3.put o n2 id).moved id o = B.T.ren d n1 o n2 id lost := by rw [v3]; rfl
    rw [eT] at u1
    refine ⟨u, rfl, FI.mk (w1.act fr u1) w2 (w3.act u1 fr (by omega) (by omega) (fun f hf => ?_))⟩
    have hf3 : T3.kd f = 1 := by
      rw [← eT, moved_kd, put_kd] at hf
      exact hf
    obtain ⟨hfB, hfl⟩ := v11 f hf3
    rw [u3, v8]
    by_cases cf : f = id
    · rw [cf, va_up_self, if_pos rfl, if_pos (by rw [← cf]; exact hf3), va_up_self]
    · rw [va_up_ne _ _ cf]
      have e8 : (if T3.kd id = 1 then va_up (if lost = 0 then w.2 8 else if B.T.kd lost = 2 then w.2 8 else va_up (w.2 8) lost 1) id 1 else (if lost = 0 then w.2 8 else if B.T.kd lost = 2 then w.2 8 else va_up (w.2 8) lost 1)) f = (if lost = 0 then w.2 8 else if B.T.kd lost = 2 then w.2 8 else va_up (w.2 8) lost 1) f := by
        by_cases c : T3.kd id = 1
        · rw [if_pos c, va_up_ne _ _ cf]
        · rw [if_neg c]
      rw [e8]
      by_cases c0 : lost = 0
      · rw [if_pos c0, if_pos c0]
        exact w3.st f hfB
      · rw [if_neg c0, if_neg c0]
        by_cases cl : f = lost
        · rw [if_neg (hfl c0 cl), cl, va_up_self, va_up_self, if_pos rfl]
        · rw [va_up_ne _ _ cl]
          by_cases c2 : B.T.kd lost = 2
          · rw [if_pos c2]; exact w3.st f hfB
          · rw [if_neg c2, va_up_ne _ _ cl]; exact w3.st f hfB
  by_cases c0 : lost = 0
  · rw [if_pos (show nI lost = (0 : Int32) by rw [c0]; rfl)]
    refine fin _ x ch1 x1 x2 (by rw [if_pos c0]) ho rfl ?_ ?_ (by rw [x3, if_pos c0]) (by omega) (by omega) (fun f hf => ⟨hf, fun w => absurd c0 w⟩)
    · by_cases c1 : o = d
      · rw [c1]
        by_cases c2 : n2 = n1
        · rw [c2]; exact put_en _ _ _ _
        · rw [put_e1 _ c2, ← c1, hen, c0]
      · rw [put_e2 _ c1, hen, c0]
    · by_cases c1 : o = d
      · rw [c1, put_es]
        have := nmc_cut hn1 (e := B.T.ent d) (by rw [← eid]; exact hne)
        rw [c1] at hful
        omega
      · rw [put_e2 _ c1]
        have : ¬ 48 ≤ nmc (B.T.ent o) := fun v => htg ⟨c0, c1, v⟩
        omega
  · have hlne : B.T.ent o n2 ≠ 0 := by rw [hen]; exact c0
    obtain ⟨t1, t2⟩ := ht c0
    obtain ⟨mv1, mv2⟩ := hmv c0
    have hkl : B.T.kd lost ≠ 0 := by rw [mv1]; exact hkid
    obtain ⟨l1, l2, l3⟩ := w3.nw.tok.rng lost hkl
    rw [if_neg (ne0_I (by omega) c0), hy6 c0]
    have hdt : o ≠ d ∨ t ≠ s := by
      by_cases c1 : o = d
      · refine Or.inr (fun c2 => hid ?_)
        rw [c1, c2, hsl] at t2
        have : n2 = n1 := by omega
        rw [eid, elo, c1, this]
      · exact Or.inl c1
    have t3 : slN x o t = 1 + n2 := by rw [x6 o t ho t1 hdt]; exact t2
    refine (dropName_n hF x1 (by omega) (by rw [x2.s11]; exact hse) (d := o) ho t1 t3).bd ?_
    rintro _ ⟨v, ch2, rfl, v1, v2, v3, v4, v5, -⟩
    have hlo : lost ≠ o := fun e => by
      by_cases c2 : B.T.kd lost = 2
      · have : nmc (B.T.ent lost) = 0 := by
          have : ¬ 0 < nmc (B.T.ent lost) := fun q => mv2 ⟨c2, q⟩
          omega
        rw [e] at this
        exact hlne (nmc_z this hn2)
      · rw [e] at c2
        exact c2 ho
    have hld : lost ≠ d := fun e => by
      by_cases c2 : B.T.kd lost = 2
      · have : nmc (B.T.ent lost) = 0 := by
          have : ¬ 0 < nmc (B.T.ent lost) := fun q => mv2 ⟨c2, q⟩
          omega
        rw [e] at this
        exact hne (by rw [eid]; exact nmc_z this hn1)
      · rw [e] at c2
        exact c2 hd
    have hlk : B.T.kd lost = 1 → B.T.lk lost < 2 ^ 31 := fun q => Nat.lt_of_le_of_lt (w4.lkb w3.nw.tok.tfa q) (by decide)
    refine (lose_s hF v1 (by omega) (by rw [v2.s11, x2.s11]; exact hse) (x := lost) hkl hlk (fun q => ?_)).bd ?_
    · rw [put_e2 _ hlo, put_e2 _ hld]
      have : ¬ 0 < nmc (B.T.ent lost) := fun w => mv2 ⟨q, w⟩
      omega
    · rintro _ ⟨u, ch3, rfl, u1, u2, u3, u4, u5, u6⟩
      refine fin _ u ch3 u1 ((x2.trans v2).trans u2) (by rw [if_neg c0]) (by rw [lose_kd (Ne.symm hlo)]; exact ho) (by rw [lose_kd hid]; rfl) (by rw [lose_ent, put_en]) ?_ ?_ (by omega) (by omega) (fun f hf => ?_)
      · rw [lose_ent, put_es]
        have h1 : nmc ((B.T.put d n1 0).ent o) ≤ nmc (B.T.ent o) := by
          by_cases c1 : o = d
          · rw [c1, put_es]
            have := nmc_cut hn1 (e := B.T.ent d) (by rw [← eid]; exact hne)
            omega
          · rw [put_e2 _ c1]; exact Nat.le_refl _
        have h2 : (B.T.put d n1 0).ent o n2 ≠ 0 := by
          by_cases c1 : o = d
          · rw [c1]
            by_cases c2 : n2 = n1
            · exact absurd (by rw [eid, elo, c1, c2]) hid
            · rw [put_e1 _ c2, ← c1]; exact hlne
          · rw [put_e2 _ c1]; exact hlne
        have := nmc_cut hn2 h2
        omega
      · rw [u3, v3, x3, if_neg c0]
        rfl
      · by_cases cl : f = lost
        · refine ⟨?_, fun _ _ c2 => ?_⟩
          · by_cases c2 : B.T.kd lost = 2
            · exfalso
              rw [cl] at hf
              have hf : (((B.T.put d n1 0).put o n2 0).lose lost).kd lost = 1 := hf
              unfold TRE.lose at hf
              rw [if_pos (show ((B.T.put d n1 0).put o n2 0).kd lost = 2 from c2)] at hf
              have hf : va_up ((B.T.put d n1 0).put o n2 0).kd lost 0 lost = 1 := hf
              rw [va_up_self] at hf
              omega
            · rw [cl]; omega
          · rw [cl] at hf
            have hf : (((B.T.put d n1 0).put o n2 0).lose lost).kd lost = 1 := hf
            unfold TRE.lose at hf
            rw [if_pos (show ((B.T.put d n1 0).put o n2 0).kd lost = 2 from c2)] at hf
            have hf : va_up ((B.T.put d n1 0).put o n2 0).kd lost 0 lost = 1 := hf
            rw [va_up_self] at hf
            omega
        · rw [lose_kd cl] at hf
          exact ⟨hf, fun _ w => absurd w cl⟩
theorem cl_rename {FU : Nat} (hF : 140000 < FU) {z : NSt} {A : AB} (h : FI z A) (hA : AI A 0) (htk : A.tk ≤ 2000) {d n o m : Nat} (hd : d < 2 ^ 32) (hn : n < 2 ^ 32) (ho : o < 2 ^ 32) (hm : m < 2 ^ 32) : Ans (FF_rename FU (nI d) (nI n) (nI o) (nI m) (up z)) (renA d n o m A) := by
  unfold renA
  by_cases c : A.dv = 2
  · rw [pwrA_yes c]
    obtain ⟨hc, PP, ch, hfi⟩ := h.on c
    unfold FF_rename
    refine (takeTwo_s hF hc hfi c hn hm).bd ?_
    rintro _ ⟨y, rfl, y1, y2, y3⟩
    have nw : NW y A.T A.R (A.tk, A.S) PP ch := y2.nw
    rw [if_pos (show (0 : Nat) = 0 from rfl)]
    show Ev ((FF_requireNamed FU (nI d) (nI (if nmOk A.tp A.tl 0 n = true ∧ nmOk A.tp A.tl n m = true then 1 else 0)) (up y)).bind _) _
    rw [named_s FU nw hd (by split <;> omega)]
    by_cases q : nmOk A.tp A.tl 0 n = true ∧ nmOk A.tp A.tl n m = true ∧ A.T.kd d = 2 ∧ A.T.kd o = 2
    · have qq : nmOk A.tp A.tl 0 n = true ∧ nmOk A.tp A.tl n m = true := ⟨q.1, q.2.1⟩
      obtain ⟨⟨m1, m2⟩, m3, m4⟩ := y3 qq
      rw [if_neg (not_not_intro q), if_pos qq, if_pos ⟨rfl, q.2.2.1⟩, Option.bind_some, if_pos (show (0 : Nat) = 0 from rfl)]
      show Ev ((FF_requireNamed FU (nI o) (nI 1) (up y)).bind _) _
      rw [named_s FU nw ho (by decide), if_pos ⟨rfl, q.2.2.2⟩, Option.bind_some, if_pos (show (0 : Nat) = 0 from rfl)]
      obtain ⟨r1, e1, e2, e3, e4⟩ := slotId_s hF nw (a := 2) (Or.inl rfl) q.2.2.1
      obtain ⟨r2, f1, f2, f3, f4⟩ := slotId_s hF nw (a := 3) (Or.inr rfl) q.2.2.2
      show Ev ((Tre_slotOf FU 2 (nI d) (up y)).bind _) _
      rw [e1, Option.bind_some]
      show Ev ((Tre_slotOf FU 3 (nI o) (up y)).bind _) _
      rw [f1, Option.bind_some]
      show Ev ((Tre_idIn FU (nI d) r1 (up y)).bind _) _
      rw [e2, Option.bind_some]
      show Ev ((Tre_idIn FU (nI o) r2 (up y)).bind _) _
      rw [f2, Option.bind_some]
      rw [m1] at e3 e4 m2 ⊢
      rw [m3] at f3 f4 m4 ⊢
      obtain ⟨id, eid⟩ : ∃ id, id = A.T.ent d (nmN A.tp 0 n) := ⟨_, rfl⟩
      obtain ⟨lost, elo⟩ : ∃ lost, lost = A.T.ent o (nmN A.tp n m) := ⟨_, rfl⟩
      rw [← eid] at e3 e4 ⊢
      rw [← elo] at f3 f4 ⊢
      unfold renA2
      by_cases sm : id ≠ 0 ∧ id = lost
      · rw [if_pos sm, if_neg (ne0_I (by omega) sm.1), if_pos (by rw [sm.2])]
        unfold FF_rename_b87
        rw [if_neg (show ¬ (1 : Int32) = 0 by decide)]
        unfold FF_rename_b112
        refine rsv_s (n := 8) hF y1 y2 (hA.tl 0) c htk (by decide) (K := fun g => if (1 : Int32) = 0 then (Tre_dropName FU (nI d) r1 g).bind fun p4 => (if nI lost = 0 then FF_rename_b155 FU (nI o) (nI id) p4 else (Tre_dropName FU (nI o) r2 p4).bind fun p5 => (FF_lose FU (nI lost) p5).bind fun p6 => FF_rename_b155 FU (nI o) (nI id) p6) else some (0, (0 : Int32), g)) (fun w PP' ch' w1 w2 w3 w4 w5 w6 w7 => ?_)
        show Ev (if (1 : Int32) = 0 then _ else _) _
        rw [if_neg (show ¬ (1 : Int32) = 0 by decide)]
        exact Ev.ret ⟨w, rfl, FI.mk w1 w2 w3.wk0⟩
      · rw [if_neg sm]
        have e86 : (if nI id = (0 : Int32) then FF_rename_b86 FU (nI d) (nI o) r1 r2 (nI id) (nI lost) (up y) else (if nI id = nI lost then FF_rename_b87 FU (nI d) (nI o) r1 r2 (nI id) (nI lost) (1 : Int32) (up y) else FF_rename_b86 FU (nI d) (nI o) r1 r2 (nI id) (nI lost) (up y))) = FF_rename_b86 FU (nI d) (nI o) r1 r2 (nI id) (nI lost) (up y) := by
          by_cases c0 : id = 0
          · rw [if_pos (show nI id = (0 : Int32) by rw [c0]; rfl)]
          · rw [if_neg (ne0_I (by omega) c0), if_neg (fun w => sm ⟨c0, (nI_inj (by omega) (by omega)).mp w⟩)]
        show Ev (if nI id = (0 : Int32) then FF_rename_b86 FU (nI d) (nI o) r1 r2 (nI id) (nI lost) (up y) else (if nI id = nI lost then FF_rename_b87 FU (nI d) (nI o) r1 r2 (nI id) (nI lost) (1 : Int32) (up y) else FF_rename_b86 FU (nI d) (nI o) r1 r2 (nI id) (nI lost) (up y))) _
        rw [e86]
        unfold FF_rename_b86 FF_rename_b87
        rw [if_pos rfl, movable_s FU nw e3 f3, Option.bind_some]
        by_cases b1 : id = 0 ∨ (lost ≠ 0 ∧ (A.T.kd lost ≠ A.T.kd id ∨ (A.T.kd lost = 2 ∧ 0 < nmc (A.T.ent lost))))
        · rw [if_pos b1, if_neg (show ¬ (2 : Nat) = 0 by decide), if_pos (by
            rcases b1 with b1 | b1
            · exact Or.inl b1
            · exact Or.inr (Or.inl b1))]
          exact Ev.ret ⟨y, rfl, FI.mk y1 c y2⟩
        · rw [if_neg b1, if_pos (show (0 : Nat) = 0 from rfl)]
          show Ev ((FF_requireTarget FU (nI d) (nI o) (nI id) (nI lost) (up y)).bind _) _
          rw [target_s hF nw hA.tw.ac q.2.2.1 q.2.2.2 e3 f3, Option.bind_some]
          by_cases b2 : (lost = 0 ∧ o ≠ d ∧ 48 ≤ nmc (A.T.ent o)) ∨ (A.T.kd id = 2 ∧ isInB A.T o id = true)
          · rw [if_pos b2, if_neg (show ¬ (2 : Nat) = 0 by decide), if_pos (Or.inr (Or.inr b2))]
            exact Ev.ret ⟨y, rfl, FI.mk y1 c y2⟩
          · rw [if_neg b2, if_pos (show (0 : Nat) = 0 from rfl), if_neg (fun w => by
              rcases w with w | w | w
              · exact b1 (Or.inl w)
              · exact b1 (Or.inr w)
              · exact b2 w)]
            unfold FF_rename_b112
            refine rsv_s (n := 8) hF y1 y2 (hA.tl 0) c htk (by decide) (K := fun g => if (0 : Int32) = 0 then (Tre_dropName FU (nI d) r1 g).bind fun p4 => (if nI lost = 0 then FF_rename_b155 FU (nI o) (nI id) p4 else (Tre_dropName FU (nI o) r2 p4).bind fun p5 => (FF_lose FU (nI lost) p5).bind fun p6 => FF_rename_b155 FU (nI o) (nI id) p6) else some (0, (0 : Int32), g)) (fun w PP' ch' w1 w2 w3 w4 w5 w6 w7 => ?_)
            show Ev (if (0 : Int32) = 0 then _ else _) _
            rw [if_pos rfl]
            have hid0 : id ≠ 0 := fun v => b1 (Or.inl v)
            obtain ⟨s, s1, rfl, s3⟩ := e4 hid0
            have w7 : (rsvB 8 (A.w_tl 0)).T = A.T := w7
            have htB : (rsvB 8 (A.w_tl 0)).tk ≤ 3000 := Nat.le_trans rsvB_tk (show A.tk + 1 ≤ 3000 by omega)
            obtain ⟨B, eB⟩ : ∃ B, B = rsvB 8 (A.w_tl 0) := ⟨_, rfl⟩
            rw [← eB] at w1 w2 w3 w4 w7 htB ⊢
            have eid' : id = B.T.ent d (nmN A.tp 0 n) := by rw [w7]; exact eid
            have elo' : lost = B.T.ent o (nmN A.tp n m) := by rw [w7]; exact elo
            obtain ⟨t, ht, hr⟩ : ∃ t, (lost ≠ 0 → t < 48 ∧ slN w o t = 1 + nmN A.tp n m) ∧ (lost ≠ 0 → r2 = nI t) := by
              by_cases c0 : lost = 0
              · exact ⟨0, fun v => absurd c0 v, fun v => absurd c0 v⟩
              · obtain ⟨t, t1, t2, t3⟩ := f4 c0
                exact ⟨t, fun _ => ⟨t1, by rw [w5 o t q.2.2.2 t1]; exact t3⟩, fun _ => t2⟩
            have := renAct_s hF w1 w2 w3 w4 htB (d := d) (o := o) (n1 := nmN A.tp 0 n) (n2 := nmN A.tp n m) (s := s) (t := t) (by rw [w7]; exact q.2.2.1) (by rw [w7]; exact q.2.2.2) (by rw [nm_keep w6 (by decide), m3]) (by rw [w6 3 (by decide)]; exact m4) (NL_lt m2) s1 (by rw [w5 d s q.2.2.1 s1]; exact s3) (by rw [← elo']; exact ht) (by rw [← eid']; exact hid0) (by rw [← eid', ← elo']; exact fun v => sm ⟨hid0, v⟩) (by
              rw [← eid', ← elo', w7]
              intro v
              refine ⟨Classical.byContradiction (fun u => b1 (Or.inr ⟨v, Or.inl u⟩)), fun u => b1 (Or.inr ⟨v, Or.inr u⟩)⟩) (by
              rw [← elo', w7]
              exact fun v => b2 (Or.inl v)) r2 (by rw [← elo']; exact hr)
            rw [← eid', ← elo'] at this
            exact this
    · rw [if_pos q]
      by_cases q1 : nmOk A.tp A.tl 0 n = true ∧ nmOk A.tp A.tl n m = true
      · rw [if_pos q1]
        by_cases q2 : A.T.kd d = 2
        · rw [if_pos ⟨rfl, q2⟩, Option.bind_some, if_pos (show (0 : Nat) = 0 from rfl)]
          show Ev ((FF_requireNamed FU (nI o) (nI 1) (up y)).bind _) _
          rw [named_s FU nw ho (by decide), if_neg (fun w => q ⟨q1.1, q1.2, q2, w.2⟩), Option.bind_some, if_neg (show ¬ (1 : Nat) = 0 by decide)]
          exact Ev.ret ⟨y, rfl, FI.mk y1 c y2⟩
        · rw [if_neg (fun w => q2 w.2), Option.bind_some, if_neg (show ¬ (1 : Nat) = 0 by decide)]
          exact Ev.ret ⟨y, rfl, FI.mk y1 c y2⟩
      · rw [if_neg q1, if_neg (fun w => by omega), Option.bind_some, if_neg (show ¬ (1 : Nat) = 0 by decide)]
        exact Ev.ret ⟨y, rfl, FI.mk y1 c y2⟩
  · rw [pwrA_no c]
    unfold FF_rename FF_takeTwoNames
    rw [pwr_no FU h c, Option.bind_some, if_neg (show ¬ (2 : Nat) = 0 by decide), Option.bind_some, if_neg (show ¬ (2 : Nat) = 0 by decide)]
    exact Ans.no h 2
