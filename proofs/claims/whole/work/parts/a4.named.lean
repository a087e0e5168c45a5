/-! the class: calls with names -/
theorem FI.on {z : NSt} {A : AB} (h : FI z A) (hd : A.dv = 2) : FIC z A ∧ ∃ PP ch, FIN z A 0 PP ch := by
  obtain ⟨hc, q | ⟨q, -⟩ | ⟨-, q⟩⟩ := h
  · omega
  · omega
  · exact ⟨hc, q⟩
theorem FI.mk {z : NSt} {A : AB} {PP : Nat → Nat} {ch : List Nat} (hc : FIC z A) (hd : A.dv = 2) (h : FIN z A 0 PP ch) : FI z A := ⟨hc, Or.inr (Or.inr ⟨hd, PP, ch, h⟩)⟩
theorem FI.dv3 {z : NSt} {A : AB} (h : FI z A) : A.dv ≤ 2 := by
  obtain ⟨hc, q | ⟨q, -⟩ | ⟨q, -⟩⟩ := h <;> omega
theorem pwr_yes (FU : Nat) {z : NSt} {A : AB} (hc : FIC z A) (hd : A.dv = 2) : FF_requirePower FU (up z) = some (0, 0, up z) := by
  unfold FF_requirePower
  rw [up1, hc.dv, hd, if_pos (show nI 2 = (2 : Int32) from rfl)]
theorem pwr_no (FU : Nat) {z : NSt} {A : AB} (h : FI z A) (hd : A.dv ≠ 2) : FF_requirePower FU (up z) = some (2, 0, up z) := by
  unfold FF_requirePower
  have := h.dv3
  rw [up1, h.1.dv, if_neg (fun w : nI A.dv = (2 : Int32) => hd ((nI_inj (b := 2) (by omega) (by decide)).mp w))]
theorem pwrA_no {A : AB} (hd : A.dv ≠ 2) (k : ANS) : pwrA A k = (2, 0, A) := if_neg hd
theorem pwrA_yes {A : AB} (hd : A.dv = 2) (k : ANS) : pwrA A k = k := if_pos hd
theorem Ans.no {z : NSt} {A : AB} (h : FI z A) (c : Nat) : Ans (some (c, 0, up z)) (c, 0, A) := Ev.ret ⟨z, rfl, h⟩
/-- rows that do not matter -/
theorem FIN.rows {z y : NSt} {A B : AB} {s : Nat} {PP : Nat → Nat} {ch : List Nat} (h : FIN z A s PP ch) (h1 : ∀ k, 5 ≤ k → k ≤ 11 ∨ 16 ≤ k → y.1 k = z.1 k) (h2 : ∀ a, 4 ≤ a → y.2 a = z.2 a) (hw : WD y) (eT : B.T = A.T) (eO : B.O = A.O) (eS : B.S = A.S) (eF : B.F = A.F) (eu : B.us = A.us) (ef : B.fr = A.fr) (ek : B.tk = A.tk) (er : B.rm = A.rm) (en : B.rn = A.rn) : FIN y B s PP ch := by
  have eR : B.R = A.R := by unfold AB.R; rw [eO, eS, eF]
  have hz : Uz y = Uz z := Uz_frame (fun k _ _ => h1 k (by omega) (by omega))
  refine ⟨?_, ?_, ?_, ?_, ?_, ?_, ?_, ?_, ?_, ?_, ?_, by rw [eu]; exact h.u28⟩
  · rw [eT, eR, ek, eS]
    exact h.nw.rows (fun k k1 _ => h1 k k1 (by omega)) h2 hw
  · rw [eO]; exact h.pi
  · rw [eT, en, h2 8 (by decide)]; exact h.st
  · rw [h1 16 (by decide) (by decide), er]; exact h.s16
  · rw [h1 17 (by decide) (by decide), eu]; exact h.s17
  · rw [h1 18 (by decide) (by decide), ef]; exact h.s18
  · rw [h1 19 (by decide) (by decide), ek]; exact h.s19
  · rw [er, eu, ef, hz]; exact h.uz
  · rw [KC_rows h2, eu, ef, er]; exact h.kc
  · rw [h1 11 (by decide) (by decide), ek]; exact h.se
  · rw [h1 6 (by decide) (by decide), er]; exact h.rs
theorem nmOk_congr {f g : Nat → Nat} {tl at' n : Nat} (h : ∀ i, i < 2060 → f i = g i) (ht : tl ≤ 2060) : nmOk f tl at' n = nmOk g tl at' n := by
  unfold nmOk
  rw [decide_eq_decide]
  constructor
  · rintro ⟨a, b, c, d⟩
    exact ⟨a, b, c, fun i hi => by rw [← h _ (by omega)]; exact d i hi⟩
  · rintro ⟨a, b, c, d⟩
    exact ⟨a, b, c, fun i hi => by rw [h _ (by omega)]; exact d i hi⟩
theorem nmN_congr {f g : Nat → Nat} {at' n : Nat} (h : ∀ i, i < 2060 → f i = g i) (ht : at' + n ≤ 2060) : nmN f at' n = nmN g at' n := by
  unfold nmN
  refine hn_congr (fun i _ => ?_)
  by_cases c : i < n
  · rw [if_pos c, if_pos c, h _ (by omega)]
  · rw [if_neg c, if_neg c]
theorem nmOk_le {tp : Nat → Nat} {tl at' n : Nat} (h : nmOk tp tl at' n = true) : 1 ≤ n ∧ n ≤ 20 ∧ at' + n ≤ tl := by
  unfold nmOk at h
  obtain ⟨a, b, c, -⟩ := of_decide_eq_true h
  exact ⟨a, b, c⟩
theorem FIC.pk {z x : NSt} {A : AB} (h : FIC z A) {a : Nat} (ha : a = 2 ∨ a = 3) (e1 : x.1 = z.1) (e2 : ∀ c, c ≠ a → x.2 c = z.2 c) (hw : ∀ j, x.2 a j < 2 ^ 32) : FIC x A ∧ WD x := by
  have w : WD x := fun c c1 c2 i => by
    by_cases q : c = a
    · rw [q]; exact hw i
    · rw [e2 c q]; exact h.wd c c1 c2 i
  refine ⟨h.frame (fun k _ => by rw [e1]) (fun c hc => e2 c (by omega)) ⟨w, ?_, fun n hn => by rw [e2 6 (by omega)]; exact h.bs.2 n hn⟩, w⟩
  obtain ⟨⟨b1, b2⟩, b3, b4⟩ := h.bs.1
  refine ⟨⟨by rw [e2 5 (by omega)]; exact b1, ?_⟩, by rw [e2 9 (by omega)]; exact b3, by rw [e2 12 (by omega)]; exact b4⟩
  rw [e2 5 (by omega)]
  unfold zW
  rw [e2 4 (by omega)]
  exact b2
theorem FIC.setTl {z : NSt} {A : AB} (h : FIC z A) : FIC (zI z 0 0) (A.w_tl 0) := by
  refine ⟨rfl, ?_, Nat.zero_le _, h.ol, h.tp, h.tb, h.tpb, h.tbb, ?_, ?_, ?_, h.wd, h.bs⟩
  · exact h.s1
  · exact h.dv
  · exact h.ct
  · exact h.fw
/-- what takeName leaves: the names' numbers -/
def NMD (z : NSt) (A : AB) (a at' n : Nat) : Prop := nmOk A.tp A.tl at' n = true → nmA z a = nmN A.tp at' n ∧ NL (nmA z a) (z.2 a 5)
theorem pack_s {FU : Nat} (hF : 140000 < FU) {z : NSt} {A : AB} (hc : FIC z A) {a : Nat} (ha : a = 2 ∨ a = 3) {at' n : Nat} (hat : at' ≤ 20) (hnn : n < 2 ^ 32) :
    Ev (Row_packName FU 0 a (nI at') (nI n) (up z)) fun r => ∃ x, r = (nI (if nmOk A.tp A.tl at' n = true then 1 else 0), up x) ∧ x.1 = z.1 ∧ (∀ c, c ≠ a → x.2 c = z.2 c) ∧ (∀ j, x.2 a j < 2 ^ 32) ∧ NMD x A a at' n := by
  have htp : ∀ i, i < 2060 → z.2 0 i < 256 := fun i hi => by rw [hc.tp i hi]; exact hc.tpb i hi
  refine (packName_s hF ha hnn hat (by rw [hc.s0]; exact hc.tl) htp (hc.wd a (by omega) (by omega))).mono ?_
  rintro _ ⟨x, rfl, x1, x2, x3, x4⟩
  have e := nmOk_congr (at' := at') (n := n) hc.tp hc.tl
  rw [hc.s0, e] at x4
  refine ⟨x, by rw [hc.s0, e], x1, x2, x3, fun q => ?_⟩
  obtain ⟨y1, y2⟩ := x4 q
  have := nmOk_le q
  have ht := hc.tl
  exact ⟨by rw [y1]; exact nmN_congr hc.tp (by omega), y2⟩
theorem takeName_s {FU : Nat} (hF : 140000 < FU) {z : NSt} {A : AB} {PP : Nat → Nat} {ch : List Nat} (hc : FIC z A) (h : FIN z A 0 PP ch) (hd : A.dv = 2) {n : Nat} (hnn : n < 2 ^ 32) :
    Ev (FF_takeName FU (nI n) (up z)) fun r => ∃ y, r = (0, nI (if nmOk A.tp A.tl 0 n = true then 1 else 0), up y) ∧ FIC y (A.w_tl 0) ∧ FIN y (A.w_tl 0) 0 PP ch ∧ NMD y A 2 0 n := by
  unfold FF_takeName
  rw [pwr_yes FU hc hd, Option.bind_some, if_pos rfl]
  refine (pack_s hF hc (Or.inl rfl) (at' := 0) (by decide) hnn).bd ?_
  rintro _ ⟨x, rfl, x1, x2, x3, x4⟩
  obtain ⟨c1, c2⟩ := hc.pk (Or.inl rfl) x1 x2 x3
  unfold Row_setLength
  rw [nx_eq, show (0 : Int32) = nI 0 from rfl, up_I, Option.bind_some, if_pos (by
    by_cases q : nmOk A.tp A.tl 0 n = true
    · rw [if_pos q]; exact Or.inr rfl
    · rw [if_neg q]; exact Or.inl rfl)]
  refine Ev.ret ⟨_, rfl, c1.setTl, h.rows (fun k k1 _ => by rw [zI1, if_neg (by omega), x1]) (fun a ha => by rw [zI2, x2 a (by omega)]) c2 rfl rfl rfl rfl rfl rfl rfl rfl rfl, x4⟩
theorem named_s (FU : Nat) {z : NSt} {T R : TRE} {tk : TKS} {PP : Nat → Nat} {ch : List Nat} (h : NW z T R tk PP ch) {d v : Nat} (hd : d < 2 ^ 32) (hv : v ≤ 1) : FF_requireNamed FU (nI d) (nI v) (up z) = if v = 1 ∧ T.kd d = 2 then some (0, 0, up z) else some (1, 0, up z) := by
  unfold FF_requireNamed
  have hk := h.kle d
  by_cases c : v = 0
  · rw [c, if_pos i00, if_neg (by omega)]
  · rw [if_neg (ne0_I (by omega) c), h.kindOf FU hd, Option.bind_some]
    by_cases e : T.kd d = 2
    · rw [e, if_pos (show nI 2 = (2 : Int32) from rfl), if_pos ⟨by omega, rfl⟩]
    · rw [if_neg (fun w : nI (T.kd d) = (2 : Int32) => e ((nI_inj (b := 2) (by omega) (by decide)).mp w)), if_neg (fun w => e w.2)]
/-- slots -/
theorem look_s {FU : Nat} (hF : 140000 < FU) {z : NSt} {T R : TRE} {tk : TKS} {PP : Nat → Nat} {ch : List Nat} (h : NW z T R tk PP ch) {d a : Nat} (ha : a = 2 ∨ a = 3) (hd : T.kd d = 2) :
    Ev (Tre_slotOf FU a (nI d) (up z)) fun r => (∃ s, s < 48 ∧ r = nI s ∧ slN z d s = 1 + nmA z a ∧ T.ent d (nmA z a) ≠ 0) ∨ (r = -1 ∧ T.ent d (nmA z a) = 0) := by
  refine (slotOf_s hF h ha hd).mono ?_
  rintro r (⟨s, s1, s2, s3, s4⟩ | q)
  · refine Or.inl ⟨s, s1, s2, ?_, ?_⟩
    · unfold slN
      rw [if_neg s3, s4]
    · obtain ⟨g1, g2, -⟩ := h.tok.rng d (by omega)
      obtain ⟨-, -, e1, e2, -⟩ := ((h.tok.ids d g1 g2).dir hd).1.slot s s1 s3
      rw [← s4, e1]
      exact e2
  · exact Or.inr q
theorem sl_e {z : NSt} {d s n : Nat} (h : slN z d s = 1 + n) : zV z (z.2 6 d) (6 + s) ≠ 0 ∧ nmE (zV z) (zV z (z.2 6 d) (6 + s) % 4096) = n := by
  unfold slN at h
  by_cases c : zV z (z.2 6 d) (6 + s) = 0
  · rw [if_pos c] at h; omega
  · rw [if_neg c] at h
    exact ⟨c, by omega⟩
theorem idIn_s (FU : Nat) {z : NSt} {T R : TRE} {tk : TKS} {PP : Nat → Nat} {ch : List Nat} (h : NW z T R tk PP ch) {d s n : Nat} (hd : T.kd d = 2) (hs : s < 48) (hsl : slN z d s = 1 + n) : Tre_idIn FU (nI d) (nI s) (up z) = some (nI (T.ent d n)) ∧ T.ent d n ≠ 0 ∧ T.ent d n ≤ 250 := by
  obtain ⟨e1, e2⟩ := sl_e hsl
  obtain ⟨g1, g2, -⟩ := h.tok.rng d (by omega)
  have hi := h.tok.ids d g1 g2
  obtain ⟨q1, q2, q3, q4, q5, -⟩ := (hi.dir hd).1.slot s hs e1
  have hp0 : z.2 6 d ≠ 0 := fun q => by
    have := hi.pl.mp q
    omega
  have hb2 := BPL_d (W := zV z) (P := z.2 6) hp0 g2 (by rw [(hi.kd (by omega)).1, hd]) hs
  have h3 := (h.wk.tr.rb h.wk.lg (n := d) (i := s) (by rw [hb2]; exact q1)).2.2.1
  rw [hb2] at h3
  have w32 : zV z (z.2 6 d) (6 + s) < 2 ^ 32 := by
    rw [zV_W (by omega)]
    exact h.wk.wd 4 (by decide) (by decide) _
  rw [e2] at q3
  refine ⟨?_, by rw [q3]; exact q4, by rw [q3]; exact q5⟩
  unfold Tre_idIn
  rw [slotWord_z FU h.wk.pb (by omega) hs, Option.bind_some, h.wI (by omega) (by omega), if_neg (ne0_I w32 e1), and4095 w32, show (0 : Int32) = nI 0 from rfl, Dev_word_e FU z h3 (by decide), Option.bind_some, q3, zV_W (z := z) (b := zV z (z.2 6 d) (6 + s) % 4096) (i := 0) (by decide)]
theorem idIn_m (FU : Nat) (d : Nat) (g : St) : Tre_idIn FU (nI d) (-1 : Int32) g = some 0 := by
  unfold Tre_idIn Tre_slotWord
  rw [if_pos neg_lt0, Option.bind_some, if_pos rfl]
theorem dropName_n {FU : Nat} (hF : 140000 < FU) {z : NSt} {T R : TRE} {tk : TKS} {PP : Nat → Nat} {ch : List Nat} (h : NW z T R tk PP ch) (hU : 33 ≤ Uz z) (hse : z.1 11 < 2 ^ 32) {d s n : Nat} (hd : T.kd d = 2) (hs : s < 48) (hsl : slN z d s = 1 + n) :
    Ev (Tre_dropName FU (nI d) (nI s) (up z)) fun r => ∃ y ch', r = up y ∧ NW y (T.put d n 0) R tk PP ch' ∧ FR z y ∧ y.2 8 = z.2 8 ∧ Uz y + 1 = Uz z ∧ KC y = KC z ∧ ∀ d' t, T.kd d' = 2 → t < 48 → (d' ≠ d ∨ t ≠ s) → slN y d' t = slN z d' t := by
  obtain ⟨e1, e2⟩ := sl_e hsl
  refine (dropName_s hF h hU hse hd hs e1).mono ?_
  rintro _ ⟨y, ch', rfl, n1, n2, n3, n4, n5, n6, n7, n8⟩
  rw [e2] at n1
  refine ⟨y, ch', rfl, n1, n2, n3, n4, KC_congr n5, fun d' t hd' ht hne => ?_⟩
  obtain ⟨g1, g2, -⟩ := h.tok.rng d' (by omega)
  have hi := h.tok.ids d' g1 g2
  have hp0 : z.2 6 d' ≠ 0 := fun q => by
    have := hi.pl.mp q
    omega
  have hw : zV y (y.2 6 d') (6 + t) = zV z (z.2 6 d') (6 + t) := by
    by_cases c : d' = d
    · rw [c]; exact n8 t ht (by omega)
    · rw [n7 d' c, (n6.1 _ (by rw [(h.wk.p1 hp0).1]; decide)).2]
  unfold slN
  rw [hw]
  by_cases c : zV z (z.2 6 d') (6 + t) = 0
  · rw [if_pos c, if_pos c]
  · rw [if_neg c, if_neg c]
    have hb2 := BPL_d (W := zV z) (P := z.2 6) hp0 g2 (by rw [(hi.kd (by omega)).1, hd']) ht
    have h3 := (h.wk.tr.rb h.wk.lg (n := d') (i := t) (by rw [hb2]; exact ((hi.dir hd').1.slot t ht c).1)).2.2.2.2
    rw [hb2] at h3
    unfold nmE
    rw [(n6.1 _ (by rw [h3]; decide)).2]
/-- after a call's own work -/
theorem FIN.act {z y : NSt} {A : AB} {s : Nat} {PP : Nat → Nat} {ch ch' : List Nat} (h : FIN z A s PP ch) {T' : TRE} {rn' : Nat → Bool} (hn : NW y T' A.R (A.tk, A.S) PP ch') (hfr : FR z y) (huz : Uz z ≤ Uz y + s) (hkc : KC y + Uz y ≤ KC z + Uz z) (hst : ∀ f, T'.kd f = 1 → y.2 8 f = if rn' f = true then 1 else 0) : FIN y ((A.w_T T').w_rn rn') 0 PP ch' := by
  have hu := h.uz
  obtain ⟨k1, k2⟩ := h.kc
  have e : ∀ k, 16 ≤ k ∨ k = 11 ∨ k = 6 → y.1 k = z.1 k := fun k hk => hfr.1 k (by omega) (by omega) (by omega) (by omega) (by omega) (by omega) (by omega) (by omega)
  refine ⟨hn, h.pi, hst, ?_, ?_, ?_, ?_, ?_, ⟨?_, ?_⟩, ?_, ?_, h.u28⟩
  · rw [e 16 (by omega)]; exact h.s16
  · rw [e 17 (by omega)]; exact h.s17
  · rw [e 18 (by omega)]; exact h.s18
  · rw [e 19 (by omega)]; exact h.s19
  · show A.rm - A.us - A.fr + 162 + 0 ≤ Uz y
    omega
  · show KC y + 0 ≤ A.us + A.fr
    omega
  · show KC y + 0 ≤ A.rm
    omega
  · rw [e 11 (by omega)]; exact h.se
  · rw [e 6 (by omega)]; exact h.rs
theorem FIC.act {z y : NSt} {A : AB} {T R : TRE} {tk : TKS} {PP : Nat → Nat} {ch : List Nat} (h : FIC z A) (hfr : FR z y) (hn : NW y T R tk PP ch) {T' : TRE} {rn' : Nat → Bool} : FIC y ((A.w_T T').w_rn rn') :=
  (h.frame (fun k hk => hfr.1 k (by omega) (by omega) (by omega) (by omega) (by omega) (by omega) (by omega) (by omega)) (fun a ha => hfr.2 a (by omega)) hn.fic).to rfl rfl rfl rfl rfl rfl rfl
theorem FR_names {z y : NSt} (h : FR z y) {a : Nat} (ha : a ≤ 3) : nmA y a = nmA z a := by
  unfold nmA
  rw [h.2 a ha]
/-- names that are no names, or no directory -/
theorem bad01 {p : Prop} [Decidable p] {k : Prop} (h : ¬ (p ∧ k)) : ¬ ((if p then 1 else 0) = 1 ∧ k) := fun w => h ⟨Classical.byContradiction (fun v => by
  rw [if_neg v] at w
  omega), w.2⟩
theorem cl_find {FU : Nat} (hF : 140000 < FU) {z : NSt} {A : AB} (h : FI z A) {d n : Nat} (hd : d < 2 ^ 32) (hn : n < 2 ^ 32) : Ans (FF_find FU (nI d) (nI n) (up z)) (findA d n A) := by
  unfold findA
  by_cases c : A.dv = 2
  · rw [pwrA_yes c]
    obtain ⟨hc, PP, ch, hf⟩ := h.on c
    by_cases q : nmOk A.tp A.tl 0 n = true ∧ A.T.kd d = 2
    · rw [if_neg (fun w => w q)]
      unfold FF_find
      refine (takeName_s hF hc hf c hn).bd ?_
      rintro _ ⟨y, rfl, y1, y2, y3⟩
      have nw : NW y A.T A.R (A.tk, A.S) PP ch := y2.nw
      rw [if_pos (show (0 : Nat) = 0 from rfl), named_s FU nw hd (by split <;> omega), if_pos q.1, if_pos ⟨rfl, q.2⟩, Option.bind_some, if_pos (show (0 : Nat) = 0 from rfl)]
      obtain ⟨m1, -⟩ := y3 q.1
      refine (look_s hF nw (a := 2) (Or.inl rfl) q.2).bd ?_
      rintro _ (⟨s, s1, rfl, s3, s4⟩ | ⟨rfl, s1⟩)
      · rw [m1] at s3 s4
        rw [if_pos (nI_pos' (by omega)), (idIn_s FU nw q.2 s1 s3).1, Option.bind_some]
        exact Ev.ret ⟨y, by rw [if_neg s4], FI.mk y1 c y2⟩
      · rw [m1] at s1
        rw [if_neg (by decide)]
        exact Ev.ret ⟨y, by rw [if_pos s1]; rfl, FI.mk y1 c y2⟩
    · rw [if_pos q]
      unfold FF_find
      refine (takeName_s hF hc hf c hn).bd ?_
      rintro _ ⟨y, rfl, y1, y2, y3⟩
      have nw : NW y A.T A.R (A.tk, A.S) PP ch := y2.nw
      rw [if_pos (show (0 : Nat) = 0 from rfl), named_s FU nw hd (by split <;> omega), if_neg (bad01 q), Option.bind_some, if_neg (show ¬ (1 : Nat) = 0 by decide)]
      exact Ev.ret ⟨y, rfl, FI.mk y1 c y2⟩
  · rw [pwrA_no c]
    unfold FF_find FF_takeName
    rw [pwr_no FU h c, Option.bind_some, if_neg (show ¬ (2 : Nat) = 0 by decide), Option.bind_some, if_neg (show ¬ (2 : Nat) = 0 by decide)]
    exact Ans.no h 2
