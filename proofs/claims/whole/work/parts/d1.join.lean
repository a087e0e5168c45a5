/-! the two answers, side by side -/
/-- before the first format -/
def MF (w : NSt) (A : AB) : Prop := (A.dv = 0) ∧ (MC w A) ∧ (w.1 11 < 6600) ∧ (∀ id, 1 ≤ id → id ≤ 250 → w.2 7 id ≤ 1) ∧ (w.1 13 = 0)
theorem MF.d0 {w : NSt} {A : AB} (h9 : MF w A) : A.dv = 0 := h9.1
theorem MF.c {w : NSt} {A : AB} (h9 : MF w A) : MC w A := h9.2.1
theorem MF.se {w : NSt} {A : AB} (h9 : MF w A) : w.1 11 < 6600 := h9.2.2.1
theorem MF.rn {w : NSt} {A : AB} (h9 : MF w A) : ∀ id, 1 ≤ id → id ≤ 250 → w.2 7 id ≤ 1 := h9.2.2.2.1
theorem MF.e0 {w : NSt} {A : AB} (h9 : MF w A) : w.1 13 = 0 := h9.2.2.2.2
def MJ (w : NSt) (A : AB) : Prop := MI w A ∨ MF w A
theorem MC.tw {w : NSt} {A : AB} (h : MC w A) (c : Nat) : MC (thw w c) A := ⟨h.dv, h.ct, h.cd, h.tl, h.ol, h.tp, h.tb, h.wd⟩
theorem MF.tw {w : NSt} {A : AB} (h : MF w A) (c : Nat) : MF (thw w c) A := ⟨h.d0, h.c.tw c, h.se, h.rn, h.e0⟩
def JM (o : Option (Int32 × St)) (c : Nat) (r : ANS) : Prop := Ev o (fun q => ∃ y, q.2 = up y ∧ y.1 0 = c ∧ (c = 0 → q.1 = nI r.2.1) ∧ MJ y r.2.2)
def JV (o : Option St) (c : Nat) (r : ANS) : Prop := Ev o (fun q => ∃ y, q = up y ∧ y.1 0 = c ∧ MJ y r.2.2)
theorem AnsM.j {o : Option (Int32 × St)} {c : Nat} {r : ANS} (h : AnsM o c r) : JM o c r := Ev.mono h (fun q => fun ⟨y, a, b, e, d⟩ => ⟨y, a, b, e, Or.inl d⟩)
theorem AnsV.j {o : Option St} {c : Nat} {r : ANS} (h : AnsV o c r) : JV o c r := Ev.mono h (fun q => fun ⟨y, a, b, d⟩ => ⟨y, a, b, Or.inl d⟩)
theorem isOff_c (FU : Nat) {w : NSt} {A : AB} (h : MF w A) : Mod_isOff FU (up w) = some (nI 1, up (thw w 2)) := by
  have e := h.c.dv.2.2
  rw [if_neg (by rw [h.d0]; decide)] at e
  unfold Mod_isOff Mod_isOff_b14
  rw [up1, e, if_pos i00, show (1 : Int32) = nI 1 from rfl, show (0 : Int32) = nI 0 from rfl, throwing_z FU w (by decide) (by decide), Option.bind_some]
  refine (if_pos (Or.inr rfl)).trans ?_
  rfl
theorem MF.pwr {w : NSt} {A : AB} (h : MF w A) (r : ANS) : pwrA A r = (2, 0, A) := by
  unfold pwrA
  rw [if_neg (by rw [h.d0]; decide)]
theorem off_jm (FU : Nat) {w : NSt} {A : AB} (h : MF w A) (r : ANS) {K : Int32 × St → Option (Int32 × St)} (h2 : ∀ x, K (nI 1, up x) = some ((0 : Int32), up x)) : JM ((Mod_isOff FU (up w)).bind K) (pwrA A r).1 (pwrA A r) := by
  rw [isOff_c FU h, Option.bind_some, h2, h.pwr]
  exact Ev.ret ⟨_, rfl, thw0 w 2, fun q => (by cases q), Or.inr (h.tw 2)⟩
theorem off_jv (FU : Nat) {w : NSt} {A : AB} (h : MF w A) (r : ANS) {K : Int32 × St → Option St} (h2 : ∀ x, K (nI 1, up x) = some (up x)) : JV ((Mod_isOff FU (up w)).bind K) (pwrA A r).1 (pwrA A r) := by
  rw [isOff_c FU h, Option.bind_some, h2, h.pwr]
  exact Ev.ret ⟨_, rfl, thw0 w 2, Or.inr (h.tw 2)⟩
theorem JM.eta {o : Option (Int32 × St)} {c : Nat} {r : ANS} (h : JM o c r) : JM (o.bind fun p => some (p.1, p.2)) c r := by
  obtain ⟨a, e, q⟩ := h
  rw [e, Option.bind_some]
  exact Ev.ret q
/-- those that say 'off' as 1 -/
theorem pwo_j (FU : Nat) {w : NSt} {A : AB} (h : MF w A) (r : ANS) {c : Nat} {K : Int32 → St → Option (Int32 × St)} (h2 : K (1 : Int32) (up w) = some ((0 : Int32), up (thw w 1))) : JM (if (up w).1 2 = 0 then K (1 : Int32) (up w) else K (0 : Int32) (up w)) (if A.dv = 2 then c else 1) (pwrA A r) := by
  have e := h.c.dv.2.2
  rw [if_neg (by rw [h.d0]; decide)] at e
  rw [up1, e, if_pos i00, h2, h.pwr, if_neg (by rw [h.d0]; decide)]
  exact Ev.ret ⟨_, rfl, thw0 w 1, fun q => (by cases q), Or.inr (h.tw 1)⟩
theorem pwo_k (FU : Nat) {w : NSt} {A : AB} (h : MF w A) (r : ANS) {c : Nat} {K : Int32 → St → Option St} (h2 : K (1 : Int32) (up w) = some (up (thw w 1))) : JV (if (up w).1 2 = 0 then K (1 : Int32) (up w) else K (0 : Int32) (up w)) (if A.dv = 2 then c else 1) (pwrA A r) := by
  have e := h.c.dv.2.2
  rw [if_neg (by rw [h.d0]; decide)] at e
  rw [up1, e, if_pos i00, h2, h.pwr, if_neg (by rw [h.d0]; decide)]
  exact Ev.ret ⟨_, rfl, thw0 w 1, Or.inr (h.tw 1)⟩
/-- tape and byteAt before the first format -/
theorem tape_f (FU : Nat) {w : NSt} {A : AB} (h : MF w A) {k : Nat} (hk : k < 2 ^ 32) : JM (Mod_tape FU (nI k) (up w)) 0 (tapeA k A) := by
  unfold Mod_tape tapeA
  rw [nx_eq, show (0 : Int32) = nI 0 from rfl, up_I]
  have hx := h.tw 0
  have hx0 := thw0 w 0
  have t1 := hx.c.tl.1
  have t2 := hx.c.tl.2
  show JM (if nI k ≤ nI 0 then some ((up (thw w 0)).1 9, up (thw w 0)) else if (up (thw w 0)).1 9 ≤ nI k then some ((up (thw w 0)).1 9, up (thw w 0)) else nx (setI (up (thw w 0)) 9 (nI k)) fun g2 => some ((g2.1 9), g2)) 0 _
  obtain ⟨x, ex⟩ : ∃ x, x = thw w 0 := ⟨_, rfl⟩
  rw [← ex] at hx hx0 t1 ⊢
  rw [up1, t1]
  by_cases c : nI k ≤ nI 0
  · have c' : ¬ (0 < k ∧ k < A.tl) := fun q => by
      rw [nI_leI (by omega) (by decide)] at c
      omega
    rw [if_pos c, if_neg c']
    exact Ev.ret ⟨x, rfl, hx0, fun _ => rfl, Or.inr hx⟩
  · rw [if_neg c]
    have c' : 0 < k ∧ k < 2 ^ 31 := by
      have := mt (fun q : nI k < nI 1 => ?_) c
      · rw [sLt hk (by decide)] at this
        omega
      · rw [sLt hk (by decide)] at q
        rcases q with q | q
        · rw [show k = 0 by omega]; exact (by decide)
        · have : nI k < nI 0 := (sLt hk (by decide)).mpr (Or.inr q)
          exact Int32.le_of_lt this
    by_cases d : A.tl ≤ k
    · rw [if_pos (nI_le d (by omega)), if_neg (by omega)]
      exact Ev.ret ⟨x, rfl, hx0, fun _ => rfl, Or.inr hx⟩
    · rw [if_neg (nI_ge (by omega) (by omega)), nx_eq, up_I, if_pos (by omega), up1, zI1, if_pos rfl]
      refine Ev.ret ⟨_, rfl, by rw [zI1, if_neg (by decide)]; exact hx0, fun _ => rfl, Or.inr ⟨hx.d0, ⟨hx.c.dv, hx.c.ct, hx.c.cd, ⟨rfl, by show k ≤ 2060; omega⟩, hx.c.ol, hx.c.tp, hx.c.tb, hx.c.wd⟩, hx.se, hx.rn, hx.e0⟩⟩
theorem byte_f (FU : Nat) {w : NSt} {A : AB} (h : MF w A) {i : Nat} (hi : i < 2 ^ 32) : JM (Mod_byteAt FU (nI i) (up w)) (byteA i A).1 (byteA i A) := by
  unfold Mod_byteAt Mod_byteAt_b10 byteA
  have ol2 := h.c.ol.2
  by_cases c : i < 2 ^ 31
  · rw [if_pos (show (0 : Int32) ≤ nI i from nI_le (Nat.zero_le _) c), if_pos c, th00, Option.bind_some, if_pos i00]
    have hy := h.tw 0
    have y0 := thw0 w 0
    obtain ⟨y, ey⟩ : ∃ y, y = thw w 0 := ⟨_, rfl⟩
    rw [← ey] at hy y0 ⊢
    rw [up1, hy.c.ol.1]
    by_cases d : i < A.ol
    · rw [if_neg (nI_ge (by omega) (by omega)), if_pos d, rdA_z _ 1 (by omega) (by decide), Option.bind_some, (hy.c.tb i d).1, sx255 _ (hy.c.tb i d).2]
      exact Ev.ret ⟨y, rfl, y0, fun _ => rfl, Or.inr hy⟩
    · rw [if_pos (nI_le (by omega) (by omega)), if_neg d]
      exact Ev.ret ⟨y, rfl, y0, fun _ => neg_I.symm, Or.inr hy⟩
  · have q : ¬ (0 : Int32) ≤ nI i := fun v => by
      have : nI i < nI 0 := (sLt hi (by decide)).mpr (Or.inr (by omega))
      exact Int32.lt_irrefl (Int32.lt_of_le_of_lt v this)
    rw [if_neg q, if_neg c, th10, Option.bind_some, if_neg n1]
    exact Ev.ret ⟨_, rfl, thw0 w 1, fun q => (by cases q), Or.inr (h.tw 1)⟩
theorem feed_f {FU : Nat} (hF : 140000 < FU) {w : NSt} {A : AB} (h : MF w A) (ws : Nat → Nat) : JM (Mod_feed FU (nI (ws 0)) (nI (ws 1)) (nI (ws 2)) (nI (ws 3)) (nI (ws 4)) (up w)) (ofC (feedA ws A).1) (feedA ws A) := by
  refine (feed_m hF h.c ws).mono ?_
  rintro q ⟨y, e1, e2, e3, e4, e5, e6⟩
  refine ⟨y, e1, e2, e3, Or.inr ⟨?_, e4, by rw [e5 11 (by decide) (by decide)]; exact h.se, by rw [e6 7 (by decide)]; exact h.rn, by rw [e5 13 (by decide) (by decide)]; exact h.e0⟩⟩
  unfold feedA
  split <;> exact h.d0
theorem mount_f (FU : Nat) {w : NSt} {A : AB} (h : MF w A) : JM (Mod_mount FU (up w)) (ofC (mountA A).1) (mountA A) := by
  have e := h.c.dv.2.1
  rw [if_pos h.d0] at e
  unfold Mod_mount Mod_mount_b15 Mod_mount_b20 mountA
  rw [up1, e, if_pos i00, if_neg (by rw [h.d0]; decide), th10, Option.bind_some, if_neg n1]
  exact Ev.ret ⟨_, rfl, thw0 w 1, fun q => absurd q (show ¬ (1 : Nat) = 0 by decide), Or.inr (h.tw 1)⟩
theorem format_j {FU : Nat} (hF : 300000 < FU) {w : NSt} {A : AB} (h : MJ w A) {s r : Nat} (hs : s < 2 ^ 32) (hr : r < 2 ^ 32) : JV (Mod_format FU (nI s) (nI r) (up w)) (formatA s r A).1 (formatA s r A) := by
  by_cases c : 48 ≤ s ∧ s ≤ 128 ∧ 24 ≤ r ∧ r ≤ s / 2
  · have c1 : (formatA s r A).1 = 0 := by
      unfold formatA
      rw [if_pos c]
    rw [c1]
    rcases h with h | h
    · refine (format_yes hF h.mc h.po.se (fun id i1 i2 => (h.rn id i1 i2).1) h.eo c root_tfa).mono ?_
      rintro _ ⟨y, rfl, y0, hy⟩
      exact ⟨y, rfl, y0, Or.inl hy⟩
    · refine (format_yes hF h.c h.se h.rn (oe := fun _ _ => 0) ?_ c root_tfa).mono ?_
      · rw [h.e0]
        exact ⟨by decide, fun k hk => by omega, fun k hk => by omega, fun k hk => by omega, fun k hk => by omega, fun k k' hk => by omega, fun d n q => absurd rfl q⟩
      · rintro _ ⟨y, rfl, y0, hy⟩
        exact ⟨y, rfl, y0, Or.inl hy⟩
  · rw [format_no FU w hs hr c]
    unfold formatA
    rw [if_neg c]
    refine Ev.ret ⟨_, rfl, thw0 w 1, ?_⟩
    rcases h with h | h
    · exact Or.inl (h.tw 1)
    · exact Or.inr (h.tw 1)
/-- the law's comparison, with a value -/
theorem lg_rfl (x : Int64) : lg_cmp x x = 0 := by
  unfold lg_cmp
  rw [if_neg (Int64.lt_irrefl), if_pos rfl]
def LF (o : Option (Int32 × (Nat → Int64) × St)) (c : Nat) (r : ANS) : Prop := Ev o (fun p => p.1 = nI c ∧ (c = 0 → p.2.1 0 = (nI r.2.1).toInt64) ∧ ∃ y, p.2.2 = up y ∧ FI y r.2.2)
def LV (o : Option (Int32 × (Nat → Int64) × St)) (c : Nat) (r : ANS) : Prop := Ev o (fun p => p.1 = nI c ∧ ∃ y, p.2.2 = up y ∧ FI y r.2.2)
def STEP (o : Option ((Nat → Int64) × St × St)) (A : AB) : Prop := Ev o (fun r => ∃ y w, r.2.1 = up y ∧ r.2.2 = up w ∧ FI y A ∧ MJ w A)
theorem law_m (FU : Nat) {L : Option (Int32 × (Nat → Int64) × St)} {o : Option (Int32 × St)} {c : Nat} {r : ANS} (hL : LF L c r) (hM : JM o c r) (hc : c ≤ 3) : STEP (L.bind fun p1 => o.bind fun b2 => (Mod_thrown FU b2.2).bind fun b3 => (if b3 = p1.1 then (if p1.1 = 0 then (if lg_cmp (p1.2.1 0) ((b2.1).toInt64) = 0 then some (p1.2.1, p1.2.2, b2.2) else none) else some (p1.2.1, p1.2.2, b2.2)) else none)) r.2.2 := by
  obtain ⟨p, ep, p1, p2, y, p3, hy⟩ := hL
  obtain ⟨q, eq, w, q1, q2, q3, hw⟩ := hM
  rw [ep, eq, Option.bind_some, Option.bind_some]
  unfold Mod_thrown
  rw [Option.bind_some, q1, up1, q2, p1, if_pos rfl]
  by_cases c0 : c = 0
  · rw [if_pos (show nI c = 0 by rw [c0]; rfl), p2 c0, q3 c0, lg_rfl, if_pos rfl]
    exact Ev.ret ⟨y, w, p3, rfl, hy, hw⟩
  · rw [if_neg (ne0_I (by omega) c0)]
    exact Ev.ret ⟨y, w, p3, rfl, hy, hw⟩
theorem law_v (FU : Nat) {L : Option (Int32 × (Nat → Int64) × St)} {o : Option St} {c : Nat} {r : ANS} (hL : LV L c r) (hM : JV o c r) : STEP (L.bind fun p1 => o.bind fun b2 => (Mod_thrown FU b2).bind fun b3 => (if b3 = p1.1 then some (p1.2.1, p1.2.2, b2) else none)) r.2.2 := by
  obtain ⟨p, ep, p1, y, p3, hy⟩ := hL
  obtain ⟨q, eq, w, rfl, q2, hw⟩ := hM
  rw [ep, eq, Option.bind_some, Option.bind_some]
  unfold Mod_thrown
  rw [Option.bind_some, up1, q2, p1, if_pos rfl]
  exact Ev.ret ⟨y, w, p3, rfl, hy, hw⟩
theorem upL (f : Nat → Int64) (v : Int64) : vp_updL f 0 v 0 = v := by
  unfold vp_updL
  first | rfl | rw [if_pos rfl]
/-- what the class answered, as the law takes it -/
theorem lf3 {o : Option (Nat × Int32 × St)} {r : ANS} (f : Nat → Int64) (h : Ans o r) (hc : r.1 ≤ 3) : LF (o.bind fun p => if p.1 = 0 then some ((0 : Int32), (vp_updL f 0 p.2.1.toInt64), p.2.2) else if p.1 = 1 then some ((1 : Int32), f, p.2.2) else if p.1 = 2 then some ((2 : Int32), f, p.2.2) else if p.1 = 3 then some ((3 : Int32), f, p.2.2) else none) r.1 r := by
  obtain ⟨q, e, y, rfl, hy⟩ := h
  rw [e, Option.bind_some]
  have hc : r.1 = 0 ∨ r.1 = 1 ∨ r.1 = 2 ∨ r.1 = 3 := by omega
  rcases hc with c | c | c | c
  · rw [if_pos c, c]; exact Ev.ret ⟨rfl, fun _ => upL f _, y, rfl, hy⟩
  · rw [if_neg (by rw [c]; decide), if_pos c, c]; exact Ev.ret ⟨rfl, fun q => (by cases q), y, rfl, hy⟩
  · rw [if_neg (by rw [c]; decide), if_neg (by rw [c]; decide), if_pos c, c]; exact Ev.ret ⟨rfl, fun q => (by cases q), y, rfl, hy⟩
  · rw [if_neg (by rw [c]; decide), if_neg (by rw [c]; decide), if_neg (by rw [c]; decide), if_pos c, c]; exact Ev.ret ⟨rfl, fun q => (by cases q), y, rfl, hy⟩
theorem lv3 {o : Option (Nat × Int32 × St)} {r : ANS} (f : Nat → Int64) (h : Ans o r) (hc : r.1 ≤ 3) : LV (o.bind fun p => if p.1 = 0 then some ((0 : Int32), f, p.2.2) else if p.1 = 1 then some ((1 : Int32), f, p.2.2) else if p.1 = 2 then some ((2 : Int32), f, p.2.2) else if p.1 = 3 then some ((3 : Int32), f, p.2.2) else none) r.1 r := by
  obtain ⟨q, e, y, rfl, hy⟩ := h
  rw [e, Option.bind_some]
  have hc : r.1 = 0 ∨ r.1 = 1 ∨ r.1 = 2 ∨ r.1 = 3 := by omega
  rcases hc with c | c | c | c
  · rw [if_pos c, c]; exact Ev.ret ⟨rfl, y, rfl, hy⟩
  · rw [if_neg (by rw [c]; decide), if_pos c, c]; exact Ev.ret ⟨rfl, y, rfl, hy⟩
  · rw [if_neg (by rw [c]; decide), if_neg (by rw [c]; decide), if_pos c, c]; exact Ev.ret ⟨rfl, y, rfl, hy⟩
  · rw [if_neg (by rw [c]; decide), if_neg (by rw [c]; decide), if_neg (by rw [c]; decide), if_pos c, c]; exact Ev.ret ⟨rfl, y, rfl, hy⟩
theorem lf2 {o : Option (Nat × Int32 × St)} {r : ANS} (f : Nat → Int64) (h : Ans o r) (hc : r.1 ≤ 2) : LF (o.bind fun p => if p.1 = 0 then some ((0 : Int32), (vp_updL f 0 p.2.1.toInt64), p.2.2) else if p.1 = 1 then some ((1 : Int32), f, p.2.2) else if p.1 = 2 then some ((2 : Int32), f, p.2.2) else none) r.1 r := by
  obtain ⟨q, e, y, rfl, hy⟩ := h
  rw [e, Option.bind_some]
  have hc : r.1 = 0 ∨ r.1 = 1 ∨ r.1 = 2 := by omega
  rcases hc with c | c | c
  · rw [if_pos c, c]; exact Ev.ret ⟨rfl, fun _ => upL f _, y, rfl, hy⟩
  · rw [if_neg (by rw [c]; decide), if_pos c, c]; exact Ev.ret ⟨rfl, fun q => (by cases q), y, rfl, hy⟩
  · rw [if_neg (by rw [c]; decide), if_neg (by rw [c]; decide), if_pos c, c]; exact Ev.ret ⟨rfl, fun q => (by cases q), y, rfl, hy⟩
theorem lf1 {o : Option (Nat × Int32 × St)} {r : ANS} (f : Nat → Int64) (h : Ans o r) (hc : r.1 ≤ 1) : LF (o.bind fun p => if p.1 = 0 then some ((0 : Int32), (vp_updL f 0 p.2.1.toInt64), p.2.2) else if p.1 = 1 then some ((1 : Int32), f, p.2.2) else none) r.1 r := by
  obtain ⟨q, e, y, rfl, hy⟩ := h
  rw [e, Option.bind_some]
  have hc : r.1 = 0 ∨ r.1 = 1 := by omega
  rcases hc with c | c
  · rw [if_pos c, c]; exact Ev.ret ⟨rfl, fun _ => upL f _, y, rfl, hy⟩
  · rw [if_neg (by rw [c]; decide), if_pos c, c]; exact Ev.ret ⟨rfl, fun q => (by cases q), y, rfl, hy⟩
theorem lv1 {o : Option (Nat × Int32 × St)} {r : ANS} (f : Nat → Int64) (h : Ans o r) (hc : r.1 ≤ 1) : LV (o.bind fun p => if p.1 = 0 then some ((0 : Int32), f, p.2.2) else if p.1 = 1 then some ((1 : Int32), f, p.2.2) else none) r.1 r := by
  obtain ⟨q, e, y, rfl, hy⟩ := h
  rw [e, Option.bind_some]
  have hc : r.1 = 0 ∨ r.1 = 1 := by omega
  rcases hc with c | c
  · rw [if_pos c, c]; exact Ev.ret ⟨rfl, y, rfl, hy⟩
  · rw [if_neg (by rw [c]; decide), if_pos c, c]; exact Ev.ret ⟨rfl, y, rfl, hy⟩
theorem lfo {o : Option (Nat × Int32 × St)} {r : ANS} {c' : Nat} (f : Nat → Int64) (h : Ans o r) (hc : (r.1 = 0 ∧ c' = 0) ∨ (r.1 = 2 ∧ c' = 1)) : LF (o.bind fun p => if p.1 = 0 then some ((0 : Int32), (vp_updL f 0 p.2.1.toInt64), p.2.2) else if p.1 = 2 then some ((1 : Int32), f, p.2.2) else none) c' r := by
  obtain ⟨q, e, y, rfl, hy⟩ := h
  rw [e, Option.bind_some]
  rcases hc with ⟨c, rfl⟩ | ⟨c, rfl⟩
  · rw [if_pos c]; exact Ev.ret ⟨rfl, fun _ => upL f _, y, rfl, hy⟩
  · rw [if_neg (by rw [c]; decide), if_pos c]; exact Ev.ret ⟨rfl, fun q => (by cases q), y, rfl, hy⟩
theorem lvo {o : Option (Nat × Int32 × St)} {r : ANS} {c' : Nat} (f : Nat → Int64) (h : Ans o r) (hc : (r.1 = 0 ∧ c' = 0) ∨ (r.1 = 2 ∧ c' = 1)) : LV (o.bind fun p => if p.1 = 0 then some ((0 : Int32), f, p.2.2) else if p.1 = 2 then some ((1 : Int32), f, p.2.2) else none) c' r := by
  obtain ⟨q, e, y, rfl, hy⟩ := h
  rw [e, Option.bind_some]
  rcases hc with ⟨c, rfl⟩ | ⟨c, rfl⟩
  · rw [if_pos c]; exact Ev.ret ⟨rfl, y, rfl, hy⟩
  · rw [if_neg (by rw [c]; decide), if_pos c]; exact Ev.ret ⟨rfl, y, rfl, hy⟩
theorem lfs {o : Option (Nat × Int32 × St)} {r : ANS} {c' : Nat} (f : Nat → Int64) (h : Ans o r) (hc : (r.1 = 0 ∧ c' = 0) ∨ (r.1 = 2 ∧ c' = 1) ∨ (r.1 = 3 ∧ c' = 2)) : LF (o.bind fun p => if p.1 = 0 then some ((0 : Int32), (vp_updL f 0 p.2.1.toInt64), p.2.2) else if p.1 = 2 then some ((1 : Int32), f, p.2.2) else if p.1 = 3 then some ((2 : Int32), f, p.2.2) else none) c' r := by
  obtain ⟨q, e, y, rfl, hy⟩ := h
  rw [e, Option.bind_some]
  rcases hc with ⟨c, rfl⟩ | ⟨c, rfl⟩ | ⟨c, rfl⟩
  · rw [if_pos c]; exact Ev.ret ⟨rfl, fun _ => upL f _, y, rfl, hy⟩
  · rw [if_neg (by rw [c]; decide), if_pos c]; exact Ev.ret ⟨rfl, fun q => (by cases q), y, rfl, hy⟩
  · rw [if_neg (by rw [c]; decide), if_neg (by rw [c]; decide), if_pos c]; exact Ev.ret ⟨rfl, fun q => (by cases q), y, rfl, hy⟩
