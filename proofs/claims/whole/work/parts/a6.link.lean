/-! the class: link, unlink, removeDirectory -/
theorem file_s (FU : Nat) {z : NSt} {T R : TRE} {tk : TKS} {PP : Nat → Nat} {ch : List Nat} (h : NW z T R tk PP ch) {f : Nat} (hf : f < 2 ^ 32) : FF_requireFile FU (nI f) (up z) = some (if T.kd f = 1 then 0 else 1, 0, up z) := by
  have hk := h.kle f
  unfold FF_requireFile
  rw [h.kindOf FU hf, Option.bind_some]
  by_cases c : T.kd f = 1
  · rw [c, if_pos i11, if_pos rfl]
  · rw [if_neg (fun w : nI (T.kd f) = (1 : Int32) => c ((nI_inj (b := 1) (by omega) (by decide)).mp w)), if_neg c]
theorem lkc_le {T : TRE} (hT : TFA T) (hn : ∀ d n, T.kd d ≠ 2 → T.ent d n = 0) {x : Nat} (hx : x ≠ 0) : lkc T x ≤ 12048 := by
  unfold lkc
  have := sm_bnd (f := fun d => sm (fun n => if T.ent d n = x then 1 else 0) NNM) (n := 251) (c := 48) (fun d _ => by
    have h1 : sm (fun n => if T.ent d n = x then 1 else 0) NNM ≤ nmc (T.ent d) := sm_le (fun n _ => by
      by_cases c : T.ent d n = x
      · rw [if_pos c, if_neg (by omega)]; exact Nat.le_refl _
      · rw [if_neg c]; exact Nat.zero_le _)
    by_cases k : T.kd d = 2
    · exact Nat.le_trans h1 (hT.full d k)
    · rw [nmc_0 (fun n => hn d n k)] at h1
      omega)
  omega
theorem AI.lkb {A : AB} {s : Nat} (h : AI A s) (hT : TFA A.T) {f : Nat} (hf : A.T.kd f = 1) : A.T.lk f ≤ 12048 := by
  rw [h.tw.lk f hf]
  exact lkc_le hT h.tw.noe (by
    have := (hT.rng f (by omega)).1
    omega)
theorem nI_m1 (v : Nat) : nI (v + 1) + (-1 : Int32) = nI v := by
  rw [← nI_1, Int32.add_assoc, show (1 : Int32) + -1 = 0 by decide, Int32.add_zero]
theorem loose_kd {T : TRE} {f g : Nat} (h : g ≠ f) : (T.loose f).kd g = T.kd g := by
  unfold TRE.loose
  split
  · rfl
  · exact va_up_ne _ _ h
theorem loseLink_s {FU : Nat} (hF : 140000 < FU) {z : NSt} {T R : TRE} {tk : TKS} {PP : Nat → Nat} {ch : List Nat} (h : NW z T R tk PP ch) (hU : 33 ≤ Uz z) (hse : z.1 11 < 2 ^ 32) {f : Nat} (hk : T.kd f = 1) (hl : T.lk f < 2 ^ 31) :
    Ev (FF_loseLink FU (nI f) (up z)) fun r => ∃ y ch', r = (nI (looseN T f), up y) ∧ NW y (T.loose f) R tk PP ch' ∧ FR z y ∧ y.2 8 = va_up (z.2 8) f 1 ∧ Uz z ≤ Uz y + 1 ∧ Uz y ≤ Uz z ∧ KC y = KC z := by
  obtain ⟨g1, g2, -⟩ := h.tok.rng f (by omega)
  unfold FF_loseLink
  rw [show (2 : Int32) = nI 2 from rfl, wordOf_n FU h.wk.pb (by omega) (by decide), Option.bind_some, h.wI (by omega) (by decide), ((h.tok.ids f g1 g2).fil hk).2.1]
  unfold looseN TRE.loose
  by_cases c : 1 < T.lk f
  · rw [if_neg (show ¬ nI (T.lk f) ≤ (1 : Int32) from fun w => by
      rw [show (1 : Int32) = nI 1 from rfl, nI_leI (by omega) (by decide)] at w
      omega), if_pos c, if_pos c]
    refine (changeLinks_s hF h hU hse (f := f) (v := T.lk f - 1) hk (by
      obtain ⟨v, e⟩ : ∃ v, T.lk f = v + 1 := ⟨T.lk f - 1, by omega⟩
      rw [e, nI_m1, Nat.add_sub_cancel]) (by omega)).bd ?_
    rintro _ ⟨y, ch', rfl, n1, n2, n3, n4, n5⟩
    exact Ev.ret ⟨y, ch', rfl, n1, n2, n3, by omega, by omega, KC_congr n5⟩
  · rw [if_pos (show nI (T.lk f) ≤ (1 : Int32) from nI_le (b := 1) (by omega) (by decide)), if_neg c, if_neg c]
    refine (drop_s hF h hk).bd ?_
    rintro _ ⟨y, rfl, n1, n2, n3, n4, n5⟩
    exact Ev.ret ⟨y, ch, rfl, n1, n2, n3, by omega, by omega, n5⟩
theorem FIN.act' {z y : NSt} {A : AB} {s : Nat} {PP : Nat → Nat} {ch ch' : List Nat} (h : FIN z A s PP ch) {T' : TRE} (hn : NW y T' A.R (A.tk, A.S) PP ch') (hfr : FR z y) (huz : Uz z ≤ Uz y + s) (hkc : KC y + Uz y ≤ KC z + Uz z) (hst : y.2 8 = z.2 8) (hk : ∀ f, T'.kd f = 1 → A.T.kd f = 1) : FIN y (A.w_T T') 0 PP ch' :=
  h.act (rn' := A.rn) hn hfr huz hkc (fun f hf => by rw [hst]; exact h.st f (hk f hf))
theorem FIC.act' {z y : NSt} {A : AB} {T R : TRE} {tk : TKS} {PP : Nat → Nat} {ch : List Nat} (h : FIC z A) (hfr : FR z y) (hn : NW y T R tk PP ch) {T' : TRE} : FIC y (A.w_T T') := h.act (rn' := A.rn) hfr hn
theorem FR.s11 {z y : NSt} (h : FR z y) : y.1 11 = z.1 11 := h.1 11 (by decide) (by decide) (by decide) (by decide) (by decide) (by decide) (by decide) (by decide)
theorem cl_link {FU : Nat} (hF : 140000 < FU) {z : NSt} {A : AB} (h : FI z A) (hA : AI A 0) (htk : A.tk ≤ 2000) {f d n : Nat} (hf : f < 2 ^ 32) (hd : d < 2 ^ 32) (hn : n < 2 ^ 32) : Ans (FF_link FU (nI f) (nI d) (nI n) (up z)) (linkA f d n A) := by
  unfold linkA
  by_cases c : A.dv = 2
  · rw [pwrA_yes c]
    obtain ⟨hc, PP, ch, hfi⟩ := h.on c
    unfold FF_link
    refine (takeName_s hF hc hfi c hn).bd ?_
    rintro _ ⟨y, rfl, y1, y2, y3⟩
    have nw : NW y A.T A.R (A.tk, A.S) PP ch := y2.nw
    rw [if_pos (show (0 : Nat) = 0 from rfl), file_s FU nw hf, Option.bind_some]
    by_cases q : nmOk A.tp A.tl 0 n = true ∧ A.T.kd d = 2 ∧ A.T.kd f = 1
    · obtain ⟨m1, m2⟩ := y3 q.1
      rw [if_neg (not_not_intro q), if_pos q.2.2, if_pos (show (0 : Nat) = 0 from rfl)]
      show Ev ((FF_requireNewName FU (nI d) (nI (if nmOk A.tp A.tl 0 n = true then 1 else 0)) (up y)).bind _) _
      rw [if_pos q.1, newName_s hF nw q.2.1, Option.bind_some, m1]
      by_cases e : A.T.ent d (nmN A.tp 0 n) ≠ 0 ∨ 48 ≤ nmc (A.T.ent d)
      · rw [if_pos e, if_neg (show ¬ (2 : Nat) = 0 by decide), if_pos e]
        exact Ev.ret ⟨y, rfl, FI.mk y1 c y2⟩
      · rw [if_neg e, if_pos (show (0 : Nat) = 0 from rfl), if_neg e]
        refine rsv_s (n := 4) hF y1 y2 (hA.tl 0) c htk (by decide) (K := fun g => (Tre_addName FU 2 (nI d) (nI f) g).bind fun p5 => (Tre_changeLinks FU (nI f) (1 : Int32) p5).bind fun p6 => some (0, p6.1, p6.2)) (fun w PP' ch' w1 w2 w3 w4 w5 w6 w7 => ?_)
        have w7 : (rsvB 4 (A.w_tl 0)).T = A.T := w7
        obtain ⟨B, eB⟩ : ∃ B, B = rsvB 4 (A.w_tl 0) := ⟨_, rfl⟩
        have htB : B.tk ≤ 3000 := by
          rw [eB]; exact Nat.le_trans rsvB_tk (show A.tk + 1 ≤ 3000 by omega)
        rw [← eB] at w1 w2 w3 w4 w7 ⊢
        obtain ⟨g1, g2, -⟩ := w3.nw.tok.rng f (by rw [w7]; omega)
        have hu := w3.u162
        have hse := w3.se32 htB
        have hn' : nmA w 2 = nmN A.tp 0 n := by rw [nm_keep w6 (by decide), m1]
        rw [m1] at m2
        have kd : B.T.kd d = 2 := by rw [w7]; exact q.2.1
        have kf : B.T.kd f = 1 := by rw [w7]; exact q.2.2
        refine (addName_s hF w3.nw (by omega) hse (a := 2) (Or.inl rfl) kd g1 g2 (by rw [hn', w6 2 (by decide)]; exact m2) (by rw [hn', w7]; exact Classical.byContradiction (fun v => e (Or.inl v))) (by rw [(w3.nw.siz kd).1, w7]; omega)).bd ?_
        rintro _ ⟨x, ch1, rfl, x1, x2, x3, x4, x5⟩
        rw [hn'] at x1
        have hlk := w4.lkb w3.nw.tok.tfa kf
        refine (changeLinks_s hF x1 (by omega) (by rw [x2.s11]; exact hse) (f := f) (v := B.T.lk f + 1) kf (nI_1 _) (by omega)).bd ?_
        rintro _ ⟨v, ch2, rfl, v1, v2, v3, v4, v5⟩
        have fr := x2.trans v2
        refine Ev.ret ⟨v, rfl, FI.mk (w1.act fr v1) w2 (w3.act v1 fr (by omega) ?_ (st_up (x := f) w3.st (by rw [v3, x3]) (fun g hg q => q)))⟩
        have : KC v = KC w := KC_congr (by rw [v5, x5])
        omega
    · rw [if_pos q]
      by_cases e : A.T.kd f = 1
      · rw [if_pos e, if_pos (show (0 : Nat) = 0 from rfl)]
        unfold FF_requireNewName
        show Ev ((Option.bind (FF_requireNamed FU (nI d) (nI (if nmOk A.tp A.tl 0 n = true then 1 else 0)) (up y)) _).bind _) _
        rw [named_s FU nw hd (by split <;> omega), if_neg (bad01 (fun w => q ⟨w.1, w.2, e⟩)), Option.bind_some, if_neg (show ¬ (1 : Nat) = 0 by decide), Option.bind_some, if_neg (show ¬ (1 : Nat) = 0 by decide)]
        exact Ev.ret ⟨y, rfl, FI.mk y1 c y2⟩
      · rw [if_neg e, if_neg (show ¬ (1 : Nat) = 0 by decide)]
        exact Ev.ret ⟨y, rfl, FI.mk y1 c y2⟩
  · rw [pwrA_no c]
    unfold FF_link FF_takeName
    rw [pwr_no FU h c, Option.bind_some, if_neg (show ¬ (2 : Nat) = 0 by decide), Option.bind_some, if_neg (show ¬ (2 : Nat) = 0 by decide)]
    exact Ans.no h 2
theorem NW.kd00 {z : NSt} {T R : TRE} {tk : TKS} {PP : Nat → Nat} {ch : List Nat} (h : NW z T R tk PP ch) : T.kd 0 = 0 := Classical.byContradiction (fun q => by
  have := (h.tok.rng 0 q).1
  omega)
theorem old_s {FU : Nat} (hF : 140000 < FU) {z : NSt} {T R : TRE} {tk : TKS} {PP : Nat → Nat} {ch : List Nat} (h : NW z T R tk PP ch) {d k : Nat} (hk : k = 1 ∨ k = 2) (hd : T.kd d = 2) :
    Ev (FF_requireOld FU (nI d) (nI k) (up z)) fun r => (T.kd (T.ent d (nmA z 2)) = k ∧ ∃ s, s < 48 ∧ r = (0, nI s, up z) ∧ slN z d s = 1 + nmA z 2) ∨ (T.kd (T.ent d (nmA z 2)) ≠ k ∧ r = (2, 0, up z)) := by
  unfold FF_requireOld
  refine (look_s hF h (a := 2) (Or.inl rfl) hd).bd ?_
  rintro _ (⟨s, s1, rfl, s3, s4⟩ | ⟨rfl, s1⟩)
  · obtain ⟨i1, i2, i3⟩ := idIn_s FU h hd s1 s3
    have hkl := h.kle (T.ent d (nmA z 2))
    rw [i1, Option.bind_some, h.kindOf FU (by omega), Option.bind_some]
    by_cases c : T.kd (T.ent d (nmA z 2)) = k
    · rw [if_pos (by rw [c])]
      exact Ev.ret (Or.inl ⟨c, s, s1, rfl, s3⟩)
    · rw [if_neg (fun w => c ((nI_inj (by omega) (by omega)).mp w))]
      exact Ev.ret (Or.inr ⟨c, rfl⟩)
  · rw [idIn_m, Option.bind_some, show (0 : Int32) = nI 0 from rfl, h.kindOf FU (by decide), Option.bind_some, h.kd00, if_neg (fun w => by
      have := (nI_inj (by decide) (by omega)).mp w
      omega)]
    refine Ev.ret (Or.inr ⟨?_, rfl⟩)
    rw [s1, h.kd00]
    omega
theorem cl_unlink {FU : Nat} (hF : 140000 < FU) {z : NSt} {A : AB} (h : FI z A) (hA : AI A 0) (htk : A.tk ≤ 2000) {d n : Nat} (hd : d < 2 ^ 32) (hn : n < 2 ^ 32) : Ans (FF_unlink FU (nI d) (nI n) (up z)) (unlinkA d n A) := by
  unfold unlinkA
  by_cases c : A.dv = 2
  · rw [pwrA_yes c]
    obtain ⟨hc, PP, ch, hfi⟩ := h.on c
    unfold FF_unlink
    refine (takeName_s hF hc hfi c hn).bd ?_
    rintro _ ⟨y, rfl, y1, y2, y3⟩
    have nw : NW y A.T A.R (A.tk, A.S) PP ch := y2.nw
    rw [if_pos (show (0 : Nat) = 0 from rfl)]
    show Ev ((FF_requireNamed FU (nI d) (nI (if nmOk A.tp A.tl 0 n = true then 1 else 0)) (up y)).bind _) _
    rw [named_s FU nw hd (by split <;> omega)]
    by_cases q : nmOk A.tp A.tl 0 n = true ∧ A.T.kd d = 2
    · obtain ⟨m1, m2⟩ := y3 q.1
      rw [if_neg (not_not_intro q), if_pos q.1, if_pos ⟨rfl, q.2⟩, Option.bind_some, if_pos (show (0 : Nat) = 0 from rfl)]
      refine (old_s hF nw (k := 1) (Or.inl rfl) q.2).bd ?_
      rw [m1]
      rintro _ (⟨k1, s, s1, rfl, s3⟩ | ⟨k1, rfl⟩)
      · rw [if_pos (show (0 : Nat) = 0 from rfl), if_neg (not_not_intro k1)]
        refine rsv_s (n := 4) hF y1 y2 (hA.tl 0) c htk (by decide) (K := fun g => (Tre_idIn FU (nI d) (nI s) g).bind fun v5 => (Tre_dropName FU (nI d) (nI s) g).bind fun p6 => (FF_loseLink FU v5 p6).bind fun p7 => some (0, p7.1, p7.2)) (fun w PP' ch' w1 w2 w3 w4 w5 w6 w7 => ?_)
        have w7 : (rsvB 4 (A.w_tl 0)).T = A.T := w7
        obtain ⟨B, eB⟩ : ∃ B, B = rsvB 4 (A.w_tl 0) := ⟨_, rfl⟩
        have htB : B.tk ≤ 3000 := by
          rw [eB]; exact Nat.le_trans rsvB_tk (show A.tk + 1 ≤ 3000 by omega)
        rw [← eB] at w1 w2 w3 w4 w7 ⊢
        have hu := w3.u162
        have hse := w3.se32 htB
        rw [← w7] at k1 q ⊢
        have s3' : slN w d s = 1 + nmN A.tp 0 n := by
          rw [w5 d s (show A.T.kd d = 2 by rw [← w7]; exact q.2) s1]
          exact s3
        obtain ⟨i1, i2, i3⟩ := idIn_s FU w3.nw q.2 s1 s3'
        rw [i1, Option.bind_some]
        refine (dropName_n hF w3.nw (by omega) hse q.2 s1 s3').bd ?_
        rintro _ ⟨x, ch1, rfl, x1, x2, x3, x4, x5, -⟩
        have hlk := w4.lkb w3.nw.tok.tfa k1
        refine (loseLink_s hF x1 (by omega) (by rw [x2.s11]; exact hse) k1 (Nat.lt_of_le_of_lt hlk (by decide))).bd ?_
        rintro _ ⟨v, ch2, rfl, v1, v2, v3, v4, v5, v6⟩
        have fr := x2.trans v2
        refine Ev.ret ⟨v, rfl, FI.mk (w1.act fr v1) w2 (w3.act v1 fr (by omega) (by omega) (st_up (x := B.T.ent d (nmN A.tp 0 n)) w3.st (by rw [v3, x3]) (fun g hg q => ?_)))⟩
        rw [loose_kd hg] at q
        exact q
      · rw [if_neg (show ¬ (2 : Nat) = 0 by decide), if_pos k1]
        exact Ev.ret ⟨y, rfl, FI.mk y1 c y2⟩
    · rw [if_pos q, if_neg (bad01 q), Option.bind_some, if_neg (show ¬ (1 : Nat) = 0 by decide)]
      exact Ev.ret ⟨y, rfl, FI.mk y1 c y2⟩
  · rw [pwrA_no c]
    unfold FF_unlink FF_takeName
    rw [pwr_no FU h c, Option.bind_some, if_neg (show ¬ (2 : Nat) = 0 by decide), Option.bind_some, if_neg (show ¬ (2 : Nat) = 0 by decide)]
    exact Ans.no h 2
theorem nmc_z {e : Nat → Nat} (h : nmc e = 0) {n : Nat} (hn : n < NNM) : e n = 0 := by
  have := sm_z h hn
  by_cases c : e n = 0
  · exact c
  · rw [if_neg c] at this
    omega
theorem cl_rmdir {FU : Nat} (hF : 140000 < FU) {z : NSt} {A : AB} (h : FI z A) (hA : AI A 0) (htk : A.tk ≤ 2000) {d n : Nat} (hd : d < 2 ^ 32) (hn : n < 2 ^ 32) : Ans (FF_removeDirectory FU (nI d) (nI n) (up z)) (rmdirA d n A) := by
  unfold rmdirA
  by_cases c : A.dv = 2
  · rw [pwrA_yes c]
    obtain ⟨hc, PP, ch, hfi⟩ := h.on c
    unfold FF_removeDirectory
    refine (takeName_s hF hc hfi c hn).bd ?_
    rintro _ ⟨y, rfl, y1, y2, y3⟩
    have nw : NW y A.T A.R (A.tk, A.S) PP ch := y2.nw
    rw [if_pos (show (0 : Nat) = 0 from rfl)]
    show Ev ((FF_requireNamed FU (nI d) (nI (if nmOk A.tp A.tl 0 n = true then 1 else 0)) (up y)).bind _) _
    rw [named_s FU nw hd (by split <;> omega)]
    by_cases q : nmOk A.tp A.tl 0 n = true ∧ A.T.kd d = 2
    · obtain ⟨m1, m2⟩ := y3 q.1
      rw [if_neg (not_not_intro q), if_pos q.1, if_pos ⟨rfl, q.2⟩, Option.bind_some, if_pos (show (0 : Nat) = 0 from rfl)]
      refine (old_s hF nw (k := 2) (Or.inr rfl) q.2).bd ?_
      rw [m1] at m2 ⊢
      have hnn := NL_lt m2
      rintro _ (⟨k1, s, s1, rfl, s3⟩ | ⟨k1, rfl⟩)
      · obtain ⟨i1, i2, i3⟩ := idIn_s FU nw q.2 s1 s3
        have hfull := nw.tok.tfa.full _ k1
        rw [if_pos (show (0 : Nat) = 0 from rfl)]
        show Ev ((Tre_idIn FU (nI d) (nI s) (up y)).bind _) _
        rw [i1, Option.bind_some, show (1 : Int32) = nI 1 from rfl, wordOf_n FU nw.wk.pb (by omega) (by decide), Option.bind_some, (nw.siz k1).2]
        by_cases e : 0 < nmc (A.T.ent (A.T.ent d (nmN A.tp 0 n)))
        · rw [if_neg (show ¬ nI (nmc (A.T.ent (A.T.ent d (nmN A.tp 0 n)))) ≤ (0 : Int32) from fun w => by
            rw [show (0 : Int32) = nI 0 from rfl, nI_leI (by omega) (by decide)] at w
            omega), if_pos (Or.inr e)]
          exact Ev.ret ⟨y, rfl, FI.mk y1 c y2⟩
        · rw [if_pos (show nI (nmc (A.T.ent (A.T.ent d (nmN A.tp 0 n)))) ≤ (0 : Int32) from nI_le (b := 0) (by omega) (by decide)), if_neg (fun w => by
            rcases w with w | w
            · exact w k1
            · exact e w)]
          refine rsv_s (n := 4) hF y1 y2 (hA.tl 0) c htk (by decide) (K := fun g => (Tre_dropName FU (nI d) (nI s) g).bind fun p7 => (Log_dropNode FU (nI (A.T.ent d (nmN A.tp 0 n))) p7).bind fun p8 => some (0, (0 : Int32), p8)) (fun w PP' ch' w1 w2 w3 w4 w5 w6 w7 => ?_)
          have w7 : (rsvB 4 (A.w_tl 0)).T = A.T := w7
          obtain ⟨B, eB⟩ : ∃ B, B = rsvB 4 (A.w_tl 0) := ⟨_, rfl⟩
          have htB : B.tk ≤ 3000 := by
            rw [eB]; exact Nat.le_trans rsvB_tk (show A.tk + 1 ≤ 3000 by omega)
          rw [← eB] at w1 w2 w3 w4 w7 ⊢
          have hu := w3.u162
          have hse := w3.se32 htB
          rw [← w7] at k1 q i2 i3 e ⊢
          have s3' : slN w d s = 1 + nmN A.tp 0 n := by
            rw [w5 d s (show A.T.kd d = 2 by rw [← w7]; exact q.2) s1]
            exact s3
          have hne : B.T.ent d (nmN A.tp 0 n) ≠ d := fun w => by
            rw [w] at e
            have := nmc_z (show nmc (B.T.ent d) = 0 by omega) hnn
            rw [w] at this
            have := (w3.nw.tok.rng d (by omega)).1
            omega
          refine (dropName_n hF w3.nw (by omega) hse q.2 s1 s3').bd ?_
          rintro _ ⟨x, ch1, rfl, x1, x2, x3, x4, x5, -⟩
          have en : (B.T.put d (nmN A.tp 0 n) 0).ent (B.T.ent d (nmN A.tp 0 n)) = B.T.ent (B.T.ent d (nmN A.tp 0 n)) := va_up_ne _ _ hne
          refine (dropDir_s FU x1 k1 (by rw [(x1.siz k1).1, en]; omega)).bd ?_
          rintro _ ⟨v, rfl, v1, v2, v3, v4, v5⟩
          have fr := x2.trans v2
          refine Ev.ret ⟨v, rfl, FI.mk (w1.act' fr v1) w2 (w3.act' v1 fr (by omega) (by omega) (by rw [v3, x3]) (fun g q => ?_))⟩
          have q : va_up B.T.kd (B.T.ent d (nmN A.tp 0 n)) 0 g = 1 := q
          by_cases cg : g = B.T.ent d (nmN A.tp 0 n)
          · rw [cg, va_up_self] at q
            omega
          · rw [va_up_ne _ _ cg] at q
            exact q
      · rw [if_neg (show ¬ (2 : Nat) = 0 by decide), if_pos (Or.inl k1)]
        exact Ev.ret ⟨y, rfl, FI.mk y1 c y2⟩
    · rw [if_pos q, if_neg (bad01 q), Option.bind_some, if_neg (show ¬ (1 : Nat) = 0 by decide)]
      exact Ev.ret ⟨y, rfl, FI.mk y1 c y2⟩
  · rw [pwrA_no c]
    unfold FF_removeDirectory FF_takeName
    rw [pwr_no FU h c, Option.bind_some, if_neg (show ¬ (2 : Nat) = 0 by decide), Option.bind_some, if_neg (show ¬ (2 : Nat) = 0 by decide)]
    exact Ans.no h 2
