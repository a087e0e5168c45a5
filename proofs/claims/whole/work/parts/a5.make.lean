/-! the class: make, link -/
theorem lwS_s (p : Nat → Bool) : ∀ (m i : Nat), (lwS p m i = 0 ∧ ∀ j, i ≤ j → j < i + m → p j = false) ∨ (i ≤ lwS p m i ∧ lwS p m i < i + m ∧ p (lwS p m i) = true ∧ ∀ j, i ≤ j → j < lwS p m i → p j = false) := by
  intro m
  induction m with
  | zero => intro i; exact Or.inl ⟨rfl, fun j a b => by omega⟩
  | succ m ih =>
    intro i
    unfold lwS
    by_cases c : p i = true
    · rw [if_pos c]
      exact Or.inr ⟨Nat.le_refl _, by omega, c, fun j a b => by omega⟩
    · rw [if_neg c]
      have c' : p i = false := by
        cases q : p i
        · rfl
        · exact absurd q c
      rcases ih (i + 1) with ⟨a, b⟩ | ⟨a, b, e, f⟩
      · refine Or.inl ⟨a, fun j h1 h2 => ?_⟩
        by_cases q : j = i
        · rw [q]; exact c'
        · exact b j (by omega) (by omega)
      · refine Or.inr ⟨by omega, by omega, e, fun j h1 h2 => ?_⟩
        by_cases q : j = i
        · rw [q]; exact c'
        · exact f j (by omega) h2
theorem lw_spec (A : AB) : (A.lw = 0 ∧ ∀ j, 1 ≤ j → j ≤ 250 → ¬ (A.T.kd j = 0 ∧ A.O.kd j = 0)) ∨ (1 ≤ A.lw ∧ A.lw ≤ 250 ∧ (A.T.kd A.lw = 0 ∧ A.O.kd A.lw = 0) ∧ ∀ j, 1 ≤ j → j < A.lw → ¬ (A.T.kd j = 0 ∧ A.O.kd j = 0)) := by
  unfold AB.lw
  rcases lwS_s (fun i => decide (A.T.kd i = 0 ∧ A.O.kd i = 0)) 250 1 with ⟨a, b⟩ | ⟨a, b, c, d⟩
  · exact Or.inl ⟨a, fun j h1 h2 => of_decide_eq_false (b j h1 (by omega))⟩
  · exact Or.inr ⟨a, by omega, of_decide_eq_true c, fun j h1 h2 => of_decide_eq_false (d j h1 h2)⟩
theorem lw_ne {A : AB} {j : Nat} (h1 : 1 ≤ j) (h2 : j ≤ 250) (h3 : A.T.kd j = 0 ∧ A.O.kd j = 0) : A.lw ≠ 0 := by
  rcases lw_spec A with ⟨-, b⟩ | ⟨a, -⟩
  · exact fun _ => b j h1 h2 h3
  · omega
theorem lw_ok {A : AB} (h : A.lw ≠ 0) : 1 ≤ A.lw ∧ A.lw ≤ 250 ∧ A.T.kd A.lw = 0 ∧ A.O.kd A.lw = 0 := by
  rcases lw_spec A with ⟨a, -⟩ | ⟨a, b, ⟨c, d⟩, -⟩
  · exact absurd a h
  · exact ⟨a, b, c, d⟩
theorem lw_rsv {A : AB} (n : Nat) (h : A.lw ≠ 0) : (rsvB n A).lw ≠ 0 := by
  obtain ⟨a, b, c, d⟩ := lw_ok h
  refine lw_ne a b ⟨by rw [rsvB_T]; exact c, ?_⟩
  unfold rsvB
  split
  · exact d
  · split
    · exact d
    · split
      · exact c
      · exact c
theorem FIN.fre {z : NSt} {A : AB} {s : Nat} {PP : Nat → Nat} {ch : List Nat} (h : FIN z A s PP ch) {j : Nat} (j1 : 1 ≤ j) (j2 : j ≤ 250) : (z.2 6 j = 0 ∧ z.2 7 j = 0) ↔ (A.T.kd j = 0 ∧ A.O.kd j = 0) := by
  have a := (h.nw.tok.ids j j1 j2).pl
  have b := h.nw.wk.co.ki j j2
  have c := h.pi j j1 j2
  constructor
  · rintro ⟨p, q⟩; exact ⟨a.mp p, c.mp (b.mp q)⟩
  · rintro ⟨p, q⟩; exact ⟨a.mpr p, b.mpr (c.mpr q)⟩
theorem lowId_s {FU : Nat} (hF : 140000 < FU) {z : NSt} {A : AB} {s : Nat} {PP : Nat → Nat} {ch : List Nat} (h : FIN z A s PP ch) : Tab_lowestId FU (up z) = some (nI A.lw) := by
  obtain ⟨r, e, q, rfl, q1⟩ := Tab_lowestId_z (FU := FU) z (by omega) (h.nw.wk.wd 6 (by decide) (by decide)) (h.nw.wk.wd 7 (by decide) (by decide))
  rw [e]
  refine congrArg some (congrArg nI ?_)
  rcases q1 with ⟨rfl, q2⟩ | ⟨q2, q3, q4, q5, q6⟩
  · rcases lw_spec A with ⟨e, -⟩ | ⟨e, f, g, -⟩
    · exact e.symm
    · have := (h.fre e f).mpr g
      rcases q2 _ e f with w | w
      · exact absurd this.1 w
      · exact absurd this.2 w
  · have g := (h.fre q2 q3).mp ⟨q4, q5⟩
    rcases lw_spec A with ⟨-, f⟩ | ⟨e, f, g', k⟩
    · exact absurd g (f q q2 q3)
    · have h1 : ¬ q < A.lw := fun w => k q q2 w g
      have h2 : ¬ A.lw < q := fun w => by
        have := (h.fre e f).mpr g'
        rcases q6 _ e w with v | v
        · exact v this.1
        · exact v this.2
      omega
theorem AI.tl {A : AB} {s : Nat} (h : AI A s) (v : Nat) : AI (A.w_tl v) s := ⟨h.tw, h.ow, h.sk, h.fk, h.rb, h.ft, h.mx⟩
/-- a call behind its reserve -/
theorem rsv_s {FU : Nat} (hF : 140000 < FU) {z : NSt} {A : AB} {PP : Nat → Nat} {ch : List Nat} (hc : FIC z A) (h : FIN z A 0 PP ch) (hA : AI A 0) (hdv : A.dv = 2) (htk : A.tk ≤ 2000) {n : Nat} (hn : n ≤ 1000) {k : AB → ANS} {K : St → Option (Nat × Int32 × St)} (hk : ∀ y PP' ch', FIC y (rsvB n A) → (rsvB n A).dv = 2 → FIN y (rsvB n A) n PP' ch' → AI (rsvB n A) n → SLK A.T z y → (∀ a, a ≤ 3 → y.2 a = z.2 a) → (rsvB n A).T = A.T → Ans (K (up y)) (k (rsvB n A))) : Ans ((FF_reserve FU (nI n) (up z)).bind fun p => if p.1 = 0 then K p.2.2 else some (p.1, (0 : Int32), p.2.2)) (rsvA n A k) := by
  refine (reserve_s hF hc h hA hdv htk hn).bd ?_
  rintro _ ⟨y, rfl, y1, y2, y3⟩
  show Ev (if rsvC n A = 0 then _ else _) _
  unfold rsvA
  by_cases c : rsvC n A = 0
  · obtain ⟨f1, f2, ⟨PP', ch', f3⟩, f4⟩ := y1 c
    rw [if_pos c, if_pos c]
    exact hk y PP' ch' f1 f2 f3 ((hA.rsv h.nw.tok.tfa n).1 c) f4 y3 (rsvB_T n A)
  · rw [if_neg c, if_neg c]
    exact Ev.ret ⟨y, rfl, y2 c⟩
theorem FIN.se32 {z : NSt} {A : AB} {s : Nat} {PP : Nat → Nat} {ch : List Nat} (h : FIN z A s PP ch) (htk : A.tk ≤ 3000) : z.1 11 < 2 ^ 32 := by
  have := h.se
  omega
theorem rsvB_tk {n : Nat} {A : AB} : (rsvB n A).tk ≤ A.tk + 1 := by
  unfold rsvB
  split
  · exact Nat.le_succ _
  · split
    · exact Nat.le_succ _
    · split
      · exact Nat.le_refl _
      · exact Nat.le_refl _
theorem FIN.u162 {z : NSt} {A : AB} {s : Nat} {PP : Nat → Nat} {ch : List Nat} (h : FIN z A s PP ch) : 162 + s ≤ Uz z := by
  have := h.uz
  omega
theorem newName_s {FU : Nat} (hF : 140000 < FU) {z : NSt} {T R : TRE} {tk : TKS} {PP : Nat → Nat} {ch : List Nat} (h : NW z T R tk PP ch) {d : Nat} (hd : T.kd d = 2) : FF_requireNewName FU (nI d) (nI 1) (up z) = some (if T.ent d (nmA z 2) ≠ 0 ∨ 48 ≤ nmc (T.ent d) then 2 else 0, 0, up z) := by
  obtain ⟨g1, g2, -⟩ := h.tok.rng d (by omega)
  unfold FF_requireNewName
  rw [named_s FU h (by omega) (by decide), if_pos ⟨rfl, hd⟩, Option.bind_some, if_pos (show (0 : Nat) = 0 from rfl)]
  obtain ⟨r, e, q⟩ := look_s hF h (a := 2) (Or.inl rfl) hd
  rw [e, Option.bind_some]
  rcases q with ⟨s, s1, rfl, s3, s4⟩ | ⟨rfl, s1⟩
  · rw [if_pos (nI_pos' (by omega)), if_pos (Or.inl s4)]
  · have hb := (h.tok.tfa).full d hd
    rw [if_neg (by decide), show (1 : Int32) = nI 1 from rfl, wordOf_n FU h.wk.pb (by omega) (by decide), Option.bind_some, (h.siz hd).2]
    by_cases c : 48 ≤ nmc (T.ent d)
    · rw [if_neg (show ¬ nI (nmc (T.ent d)) < (48 : Int32) from fun w => by
        rw [show (48 : Int32) = nI 48 from rfl, nI_ltI (by omega) (by decide)] at w
        omega), if_pos (Or.inr c)]
    · rw [if_pos (show nI (nmc (T.ent d)) < (48 : Int32) from nI_lt (b := 48) (by omega) (by decide)), if_neg (fun w => by
        rcases w with w | w
        · exact w s1
        · exact c w)]
theorem nm_keep {z y : NSt} (h : ∀ a, a ≤ 3 → y.2 a = z.2 a) {a : Nat} (ha : a ≤ 3) : nmA y a = nmA z a := by
  unfold nmA
  rw [h a ha]
theorem st_up {z y : NSt} {rn : Nat → Bool} {T T' : TRE} {x : Nat} (h : ∀ f, T.kd f = 1 → z.2 8 f = if rn f = true then 1 else 0) (e : y.2 8 = va_up (z.2 8) x 1) (hk : ∀ f, f ≠ x → T'.kd f = 1 → T.kd f = 1) : ∀ f, T'.kd f = 1 → y.2 8 f = if (va_up rn x true) f = true then 1 else 0 := fun f hf => by
  rw [e]
  by_cases c : f = x
  · rw [c, va_up_self, va_up_self, if_pos rfl]
  · rw [va_up_ne _ _ c, va_up_ne _ _ c]
    exact h f (hk f c hf)
def mkP (FU : Nat) (x1 x2 k : Int32) (g : St) : Option (Nat × Int32 × St) := (FF_takeName FU x2 g).bind fun p1 => if p1.1 = 0 then (FF_requireNewName FU x1 p1.2.1 p1.2.2).bind fun p2 => if p2.1 = 0 then (FF_requireNewId FU p2.2.2).bind fun p3 => if p3.1 = 0 then (FF_reserve FU (4 : Int32) p3.2.2).bind fun p4 => if p4.1 = 0 then (Tre_addNew FU 2 x1 k p4.2.2).bind fun p5 => some (0, p5.1, p5.2) else some (p4.1, (0 : Int32), p4.2.2) else some (p3.1, (0 : Int32), p3.2.2) else some (p2.1, (0 : Int32), p2.2.2) else some (p1.1, (0 : Int32), p1.2.2)
theorem addNew_s {FU : Nat} (hF : 140000 < FU) {z : NSt} {B : AB} {PP : Nat → Nat} {ch : List Nat} (hc : FIC z B) (h : FIN z B 4 PP ch) (htk : B.tk ≤ 3000) (hdv : B.dv = 2) {k d n : Nat} (hk : k = 1 ∨ k = 2) (hd : B.T.kd d = 2) (hlw : B.lw ≠ 0) (hnm : nmA z 2 = n) (hnl : NL n (z.2 2 5)) (hen : B.T.ent d n = 0) (hfl : nmc (B.T.ent d) < 48) :
    Ev (Tre_addNew FU 2 (nI d) (nI k) (up z)) fun r => ∃ y, r = (nI B.lw, up y) ∧ FI y ((B.w_T ((newT B.T B.lw k (if k = 2 then d else 1)).put d n B.lw)).w_rn (va_up B.rn B.lw true)) := by
  obtain ⟨l1, l2, l3, l4⟩ := lw_ok hlw
  obtain ⟨g1, g2, -⟩ := h.nw.tok.rng d (by omega)
  have hu := h.u162
  have hse := h.se32 htk
  have hdl : d ≠ B.lw := fun e => by rw [e, l3] at hd; omega
  have key : Ev (Tre_addNew_b23 FU 2 (nI d) (nI B.lw) (nI (if k = 2 then d else 1)) (nI k) (nI B.lw) (up z)) fun r => ∃ y, r = (nI B.lw, up y) ∧ FI y ((B.w_T ((newT B.T B.lw k (if k = 2 then d else 1)).put d n B.lw)).w_rn (va_up B.rn B.lw true)) := by
    unfold Tre_addNew_b23
    refine (putNew_t (lp := if k = 2 then d else 1) hF h.nw (by omega) hse l1 l2 hk l3 (by split <;> omega)).bd ?_
    rintro _ ⟨y, ch1, rfl, n1, n2, n3, n4, n5⟩
    rw [Tab_stir_z FU y (by omega), Option.bind_some]
    have m1 := n1.stir l1 l2
    have m2 := n2.stir l1 l2
    have mu : Uz (stirZ B.lw y) = Uz y := Uz_frame (fun k _ _ => by rw [(stir_8 l1 l2).2.1])
    have e2 : nmA (stirZ B.lw y) 2 = n := by rw [FR_names m2 (by decide), hnm]
    have kd : (newT B.T B.lw k (if k = 2 then d else 1)).kd d = 2 := by
      show va_up B.T.kd B.lw k d = 2
      rw [va_up_ne _ _ hdl]; exact hd
    have en : (newT B.T B.lw k (if k = 2 then d else 1)).ent d = B.T.ent d := va_up_ne _ _ hdl
    have hse2 : (stirZ B.lw y).1 11 < 2 ^ 32 := by
      rw [m2.1 11 (by decide) (by decide) (by decide) (by decide) (by decide) (by decide) (by decide) (by decide)]
      exact hse
    refine (addName_s hF m1 (by omega) hse2 (a := 2) (Or.inl rfl) kd l1 l2 (by rw [e2, m2.2 2 (by decide)]; exact hnl) (by rw [e2, en]; exact hen) (by rw [(m1.siz kd).1, en]; exact hfl)).bd ?_
    rintro _ ⟨w, ch2, rfl, w1, w2, w3, w4, w5⟩
    rw [e2] at w1
    have fr := m2.trans w2
    refine Ev.ret ⟨w, rfl, FI.mk (hc.act fr w1) hdv (h.act w1 fr (by omega) ?_ (st_up (x := B.lw) h.st (by rw [w3, (stir_8 l1 l2).1, n3]) (fun f hf q => ?_)))⟩
    · have : KC w = KC z := KC_congr (by rw [w5, (stir_8 l1 l2).2.2 7 (by decide), n5])
      omega
    · have q : va_up B.T.kd B.lw k f = 1 := q
      rw [va_up_ne _ _ hf] at q
      exact q
  unfold Tre_addNew
  rw [lowId_s hF h, Option.bind_some]
  rcases hk with rfl | rfl
  · rw [if_neg (by decide)]
    exact key
  · rw [if_pos rfl]
    exact key
theorem cl_mk {FU : Nat} (hF : 140000 < FU) {z : NSt} {A : AB} (h : FI z A) (hA : AI A 0) (htk : A.tk ≤ 2000) {k d n : Nat} (hk : k = 1 ∨ k = 2) (hd : d < 2 ^ 32) (hn : n < 2 ^ 32) : Ans (mkP FU (nI d) (nI n) (nI k) (up z)) (makeA k d n A) := by
  unfold makeA
  by_cases c : A.dv = 2
  · rw [pwrA_yes c]
    obtain ⟨hc, PP, ch, hf⟩ := h.on c
    unfold mkP
    refine (takeName_s hF hc hf c hn).bd ?_
    rintro _ ⟨y, rfl, y1, y2, y3⟩
    have nw : NW y A.T A.R (A.tk, A.S) PP ch := y2.nw
    rw [if_pos (show (0 : Nat) = 0 from rfl)]
    by_cases q : nmOk A.tp A.tl 0 n = true ∧ A.T.kd d = 2
    · rw [if_neg (not_not_intro q)]
      obtain ⟨m1, m2⟩ := y3 q.1
      show Ev ((FF_requireNewName FU (nI d) (nI (if nmOk A.tp A.tl 0 n = true then 1 else 0)) (up y)).bind _) _
      rw [if_pos q.1, newName_s hF nw q.2, Option.bind_some, m1]
      by_cases e : A.T.ent d (nmN A.tp 0 n) ≠ 0 ∨ 48 ≤ nmc (A.T.ent d)
      · rw [if_pos e, if_neg (show ¬ (2 : Nat) = 0 by decide), if_pos (by
          rcases e with e | e
          · exact Or.inl e
          · exact Or.inr (Or.inl e))]
        exact Ev.ret ⟨y, rfl, FI.mk y1 c y2⟩
      · rw [if_neg e, if_pos (show (0 : Nat) = 0 from rfl)]
        unfold FF_requireNewId
        show Ev (((Tab_lowestId FU (up y)).bind _).bind _) _
        rw [lowId_s hF y2, Option.bind_some]
        have elw : (A.w_tl 0).lw = A.lw := rfl
        rw [elw]
        by_cases l : A.lw = 0
        · rw [l, if_pos i00, Option.bind_some, if_neg (show ¬ (2 : Nat) = 0 by decide), if_pos (Or.inr (Or.inr rfl))]
          exact Ev.ret ⟨y, rfl, FI.mk y1 c y2⟩
        · have l2 := (lw_ok l).2.1
          rw [if_neg (ne0_I (by omega) l), Option.bind_some, if_pos (show (0 : Nat) = 0 from rfl), if_neg (fun w => by
            rcases w with w | w | w
            · exact e (Or.inl w)
            · exact e (Or.inr w)
            · exact l w)]
          refine rsv_s (n := 4) hF y1 y2 (hA.tl 0) c htk (by decide) (K := fun g => (Tre_addNew FU 2 (nI d) (nI k) g).bind fun p5 => some (0, p5.1, p5.2)) (fun w PP' ch' w1 w2 w3 w4 w5 w6 w7 => ?_)
          have w7 : (rsvB 4 (A.w_tl 0)).T = A.T := w7
          have hn' : nmA w 2 = nmN A.tp 0 n := by rw [nm_keep w6 (by decide), m1]
          rw [m1] at m2
          refine (addNew_s hF w1 w3 (Nat.le_trans rsvB_tk (show A.tk + 1 ≤ 3000 by omega)) w2 hk (by rw [w7]; exact q.2) (lw_rsv 4 (show (A.w_tl 0).lw ≠ 0 from l)) hn' (by rw [w6 2 (by decide)]; exact m2) (by rw [w7]; exact Classical.byContradiction (fun v => e (Or.inl v))) (by rw [w7]; omega)).bd ?_
          rintro _ ⟨x, rfl, x1⟩
          exact Ev.ret ⟨x, rfl, x1⟩
    · rw [if_pos q]
      unfold FF_requireNewName
      show Ev ((Option.bind (FF_requireNamed FU (nI d) (nI (if nmOk A.tp A.tl 0 n = true then 1 else 0)) (up y)) _).bind _) _
      rw [named_s FU nw hd (by split <;> omega), if_neg (bad01 q), Option.bind_some, if_neg (show ¬ (1 : Nat) = 0 by decide), Option.bind_some, if_neg (show ¬ (1 : Nat) = 0 by decide)]
      exact Ev.ret ⟨y, rfl, FI.mk y1 c y2⟩
  · rw [pwrA_no c]
    unfold mkP FF_takeName
    rw [pwr_no FU h c, Option.bind_some, if_neg (show ¬ (2 : Nat) = 0 by decide), Option.bind_some, if_neg (show ¬ (2 : Nat) = 0 by decide)]
    exact Ans.no h 2
theorem cl_make {FU : Nat} (hF : 140000 < FU) {z : NSt} {A : AB} (h : FI z A) (hA : AI A 0) (htk : A.tk ≤ 2000) {d n : Nat} (hd : d < 2 ^ 32) (hn : n < 2 ^ 32) : Ans (FF_make FU (nI d) (nI n) (up z)) (makeA 1 d n A) := cl_mk hF h hA htk (Or.inl rfl) hd hn
theorem cl_mkdir {FU : Nat} (hF : 140000 < FU) {z : NSt} {A : AB} (h : FI z A) (hA : AI A 0) (htk : A.tk ≤ 2000) {d n : Nat} (hd : d < 2 ^ 32) (hn : n < 2 ^ 32) : Ans (FF_makeDirectory FU (nI d) (nI n) (up z)) (makeA 2 d n A) := cl_mk hF h hA htk (Or.inr rfl) hd hn
