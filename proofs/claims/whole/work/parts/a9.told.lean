/-! the class: look, count, power, cut, byteAt, tape, feed -/
theorem NW.wz0 {z : NSt} {T R : TRE} {tk : TKS} {PP : Nat → Nat} {ch : List Nat} (h : NW z T R tk PP ch) {n : Nat} (hn : T.kd n = 0) (i : Nat) : wdI z n i = 0 := by
  unfold wdI
  refine if_neg (fun w => w.2.2 ?_)
  exact (h.tok.ids n w.1 w.2.1).pl.mpr hn
theorem eqN {w : Nat} (hw : w < 2 ^ 32) {c : Nat} (hc : c < 2 ^ 31) : nI w = nI c ↔ w = c := nI_inj hw (by omega)
theorem cl_look {FU : Nat} {z : NSt} {A : AB} (h : FI z A) {id w : Nat} (hi : id < 2 ^ 32) (hw : w < 2 ^ 32) : Ans (FF_look FU (nI id) (nI w) (up z)) (lookA id w A) := by
  unfold lookA
  by_cases c : A.dv = 2
  · rw [pwrA_yes c]
    obtain ⟨hc, PP, ch, hfi⟩ := h.on c
    have nw := hfi.nw
    have hk := nw.kle id
    unfold FF_look
    rw [pwr_yes FU hc c, Option.bind_some, if_pos (show (0 : Nat) = 0 from rfl)]
    by_cases q1 : nI w < (0 : Int32)
    · rw [if_pos q1]
      rw [show (0 : Int32) = nI 0 from rfl, sLt hw (by decide)] at q1
      rw [if_pos (show 4 < w by omega)]
      exact Ev.ret ⟨_, rfl, FI.mk hc c hfi⟩
    rw [if_neg q1]
    rw [show (0 : Int32) = nI 0 from rfl, sLt hw (by decide)] at q1
    by_cases q2 : nI w ≤ (4 : Int32)
    · rw [if_pos q2]
      rw [show (4 : Int32) = nI 4 from rfl, sLe hw (by decide)] at q2
      rw [if_neg (show ¬ 4 < w by omega), nw.kindOf FU hi, Option.bind_some]
      have fin : ∀ v, v = lookN A.T id w → Ans (some (0, nI v, up z)) (0, lookN A.T id w, A) := fun v hv => by
        rw [hv]
        exact Ev.ret ⟨_, rfl, FI.mk hc c hfi⟩
      have wI : ∀ i, A.T.kd id ≠ 0 → i < 64 → wdI z id i = zV z (z.2 6 id) i := fun i a b => nw.wI a b
      by_cases w0 : w = 0
      · rw [if_pos (show nI w = (0 : Int32) by rw [w0]; rfl)]
        refine fin _ ?_
        unfold lookN
        by_cases k0 : A.T.kd id = 0
        · rw [if_pos k0, k0]
        · rw [if_neg k0, if_pos w0]
      rw [if_neg (fun v : nI w = (0 : Int32) => w0 ((eqN hw (c := 0) (by decide)).mp v))]
      by_cases w1 : w = 1
      · rw [if_pos (show nI w = (1 : Int32) by rw [w1]; rfl), show (1 : Int32) = nI 1 from rfl, wordOf_n FU nw.wk.pb hi (by decide), Option.bind_some]
        refine fin _ ?_
        unfold lookN
        by_cases k0 : A.T.kd id = 0
        · rw [if_pos k0, nw.wz0 k0]
        · rw [if_neg k0, if_neg w0, if_pos w1]
          obtain ⟨g1, g2, g3⟩ := nw.tok.rng id k0
          by_cases k1 : A.T.kd id = 1
          · rw [if_pos k1, wI 1 k0 (by decide), ((nw.tok.ids id g1 g2).fil k1).1.sz]
          · rw [if_neg k1, (nw.siz (by omega)).2]
      rw [if_neg (fun v : nI w = (1 : Int32) => w1 ((eqN hw (c := 1) (by decide)).mp v))]
      by_cases w2 : w = 2
      · rw [if_pos (show nI w = (2 : Int32) by rw [w2]; rfl)]
        by_cases k2 : A.T.kd id = 2
        · rw [if_pos (show nI (A.T.kd id) = (2 : Int32) by rw [k2]; rfl)]
          refine fin 1 ?_
          unfold lookN
          rw [if_neg (by omega), if_neg w0, if_neg w1, if_pos w2, if_neg (by omega)]
        · rw [if_neg (fun v : nI (A.T.kd id) = (2 : Int32) => k2 ((eqN (by omega) (c := 2) (by decide)).mp v)), show (2 : Int32) = nI 2 from rfl, wordOf_n FU nw.wk.pb hi (by decide), Option.bind_some]
          refine fin _ ?_
          unfold lookN
          by_cases k0 : A.T.kd id = 0
          · rw [if_pos k0, nw.wz0 k0]
          · have k1 : A.T.kd id = 1 := by omega
            obtain ⟨g1, g2, g3⟩ := nw.tok.rng id k0
            rw [if_neg k0, if_neg w0, if_neg w1, if_pos w2, if_pos k1, wI 2 k0 (by decide), ((nw.tok.ids id g1 g2).fil k1).2.1]
      rw [if_neg (fun v : nI w = (2 : Int32) => w2 ((eqN hw (c := 2) (by decide)).mp v))]
      by_cases w3 : w = 3
      · rw [if_pos (show nI w = (3 : Int32) by rw [w3]; rfl), Tre_blocksOf_x FU nw.wk.pb (nI id) (nw.sm _), Option.bind_some]
        refine fin _ ?_
        have e : blI z (idN (nI id)) = blT A.T id := by
          rw [← nw.bl id, idN_w hi]
          unfold blI
          rw [wdI_n, wdI_n, wdI_n, wdI_n]
        rw [e]
        unfold lookN
        by_cases k0 : A.T.kd id = 0
        · rw [if_pos k0]
          unfold blT
          rw [if_neg (by omega), if_pos k0]
        · rw [if_neg k0, if_neg w0, if_neg w1, if_neg w2, if_pos w3]
      rw [if_neg (fun v : nI w = (3 : Int32) => w3 ((eqN hw (c := 3) (by decide)).mp v)), show (3 : Int32) = nI 3 from rfl, wordOf_n FU nw.wk.pb hi (by decide), Option.bind_some]
      refine fin _ ?_
      unfold lookN
      by_cases k0 : A.T.kd id = 0
      · rw [if_pos k0, nw.wz0 k0]
      · rw [if_neg k0, if_neg w0, if_neg w1, if_neg w2, if_neg w3, wI 3 k0 (by decide)]
        obtain ⟨g1, g2, g3⟩ := nw.tok.rng id k0
        by_cases k1 : A.T.kd id = 1
        · have hf := ((nw.tok.ids id g1 g2).fil k1).1
          have := hf.smb
          rw [hf.sml]
          by_cases s1 : (A.T.fil id).sm = 1
          · rw [if_pos ⟨k1, s1⟩, s1]
          · rw [if_neg (fun v => s1 v.2)]
            omega
        · rw [if_neg (fun v => k1 v.1), ((nw.tok.ids id g1 g2).dir (by omega)).2.2]
    · rw [if_neg q2]
      rw [show (4 : Int32) = nI 4 from rfl, sLe hw (by decide)] at q2
      rw [if_pos (show 4 < w by omega)]
      exact Ev.ret ⟨_, rfl, FI.mk hc c hfi⟩
  · rw [pwrA_no c]
    unfold FF_look
    rw [pwr_no FU h c, Option.bind_some, if_neg (show ¬ (2 : Nat) = 0 by decide)]
    exact Ans.no h 2
theorem cl_count {FU : Nat} (hF : 140000 < FU) {z : NSt} {A : AB} (h : FI z A) {w : Nat} (hw : w < 2 ^ 32) : Ans (FF_count FU (nI w) (up z)) (countA w A) := by
  unfold countA
  by_cases c : A.dv = 2
  · rw [pwrA_yes c]
    obtain ⟨hc, PP, ch, hfi⟩ := h.on c
    have nw := hfi.nw
    unfold FF_count
    rw [pwr_yes FU hc c, Option.bind_some, if_pos (show (0 : Nat) = 0 from rfl)]
    have fin : ∀ v u, v = u → Ans (some (0, nI v, up z)) (0, u, A) := fun v u hv => by
      rw [hv]
      exact Ev.ret ⟨_, rfl, FI.mk hc c hfi⟩
    by_cases w0 : w = 0
    · rw [if_pos (show nI w = (0 : Int32) by rw [w0]; rfl), if_neg (show ¬ 5 < w by omega), if_pos w0, Tre_blocksInUse_z (by omega) nw.wk.pb nw.sm, Option.bind_some]
      exact fin _ _ nw.inU
    rw [if_neg (fun v : nI w = (0 : Int32) => w0 ((eqN hw (c := 0) (by decide)).mp v))]
    by_cases w1 : w = 1
    · rw [if_pos (show nI w = (1 : Int32) by rw [w1]; rfl), if_neg (show ¬ 5 < w by omega), if_neg w0, if_pos w1]
      exact fin _ _ hfi.s17
    rw [if_neg (fun v : nI w = (1 : Int32) => w1 ((eqN hw (c := 1) (by decide)).mp v))]
    by_cases w2 : w = 2
    · rw [if_pos (show nI w = (2 : Int32) by rw [w2]; rfl), if_neg (show ¬ 5 < w by omega), if_neg w0, if_neg w1, if_pos w2]
      exact fin _ _ hfi.s18
    rw [if_neg (fun v : nI w = (2 : Int32) => w2 ((eqN hw (c := 2) (by decide)).mp v))]
    by_cases w3 : w = 3
    · rw [if_pos (show nI w = (3 : Int32) by rw [w3]; rfl), if_neg (show ¬ 5 < w by omega), if_neg w0, if_neg w1, if_neg w2, if_pos w3]
      exact fin _ _ hfi.s19
    rw [if_neg (fun v : nI w = (3 : Int32) => w3 ((eqN hw (c := 3) (by decide)).mp v))]
    by_cases w4 : w = 4
    · rw [if_pos (show nI w = (4 : Int32) by rw [w4]; rfl), if_neg (show ¬ 5 < w by omega), if_neg w0, if_neg w1, if_neg w2, if_neg w3, if_pos w4]
      exact fin _ _ hc.fw
    rw [if_neg (fun v : nI w = (4 : Int32) => w4 ((eqN hw (c := 4) (by decide)).mp v))]
    by_cases w5 : w = 5
    · rw [if_pos (show nI w = (5 : Int32) by rw [w5]; rfl), if_neg (show ¬ 5 < w by omega), if_neg w0, if_neg w1, if_neg w2, if_neg w3, if_neg w4, Tab_idsInUse_z z (by omega) (nw.wk.wd 6 (by decide) (by decide)), Option.bind_some]
      refine fin _ _ ?_
      unfold idsT
      refine sm_congr (fun j hj => ?_)
      have := (nw.tok.ids (1 + j) (by omega) (by omega)).pl
      by_cases q : A.T.kd (1 + j) = 0
      · rw [if_pos q, if_pos (this.mpr q)]
      · rw [if_neg q, if_neg (fun v => q (this.mp v))]
    rw [if_neg (fun v : nI w = (5 : Int32) => w5 ((eqN hw (c := 5) (by decide)).mp v)), if_pos (show 5 < w by omega)]
    exact Ev.ret ⟨_, rfl, FI.mk hc c hfi⟩
  · rw [pwrA_no c]
    unfold FF_count
    rw [pwr_no FU h c, Option.bind_some, if_neg (show ¬ (2 : Nat) = 0 by decide)]
    exact Ans.no h 2
theorem cl_power {FU : Nat} (hF : 140000 < FU) {z : NSt} {A : AB} (h : FI z A) : Ans (FF_power FU (up z)) (powerA A) := by
  unfold powerA
  by_cases c : A.dv = 2
  · rw [pwrA_yes c]
    obtain ⟨hc, PP, ch, hfi⟩ := h.on c
    unfold FF_power
    rw [pwr_yes FU hc c, Option.bind_some, if_pos (show (0 : Nat) = 0 from rfl)]
    refine (offPrt hF hc hfi hfi.nw.wk.prt).bd ?_
    rintro _ ⟨y, rfl, y1, -⟩
    exact Ev.ret ⟨y, rfl, y1⟩
  · rw [pwrA_no c]
    unfold FF_power
    rw [pwr_no FU h c, Option.bind_some, if_neg (show ¬ (2 : Nat) = 0 by decide)]
    exact Ans.no h 2
theorem cl_cut {FU : Nat} {z : NSt} {A : AB} (h : FI z A) {b : Nat} (hb : b < 2 ^ 32) : Ans (FF_cut FU (nI b) (up z)) (cutcA b A) := by
  unfold cutcA
  by_cases c : A.dv = 2
  · rw [pwrA_yes c]
    obtain ⟨hc, PP, ch, hfi⟩ := h.on c
    unfold FF_cut
    rw [pwr_yes FU hc c, Option.bind_some, if_pos (show (0 : Nat) = 0 from rfl)]
    have fin : ∀ v u, (u = 0 ∧ v = 4294967295) ∨ (u = 1 ∧ v < 2 ^ 31) → Ans (some (0, (0 : Int32), up (zI z 3 v))) (0, 0, A.w_ct u) := fun v u hv => by
      refine Ev.ret ⟨_, rfl, FI.mk ⟨?_, ?_, hc.tl, hc.ol, hc.tp, hc.tb, hc.tpb, hc.tbb, ?_, ?_, ?_, hc.wd, hc.bs⟩ c (hfi.rows (fun k k1 _ => by rw [zI1, if_neg (by omega)]) (fun a _ => rfl) hc.wd rfl rfl rfl rfl rfl rfl rfl rfl rfl)⟩
      · exact hc.s0
      · exact hc.s1
      · exact hc.dv
      · exact hv
      · exact hc.fw
    by_cases q : (0 : Int32) ≤ nI b
    · rw [if_pos q, nx_eq]
      rw [show (0 : Int32) = nI 0 from rfl, sGe (by decide) hb] at q
      show Ans (some (0, (0 : Int32), setI (up z) 3 (nI b))) _
      rw [up_I, if_pos q.2]
      exact fin b 1 (Or.inr ⟨rfl, q.2⟩)
    · rw [if_neg q, nx_eq]
      rw [show (0 : Int32) = nI 0 from rfl, sGe (by decide) hb] at q
      show Ans (some (0, (0 : Int32), setI (up z) 3 (-1 : Int32))) _
      rw [show (-1 : Int32) = nI 4294967295 by decide, up_I, if_neg (by omega)]
      exact fin _ 0 (Or.inl ⟨rfl, rfl⟩)
  · rw [pwrA_no c]
    unfold FF_cut
    rw [pwr_no FU h c, Option.bind_some, if_neg (show ¬ (2 : Nat) = 0 by decide)]
    exact Ans.no h 2
theorem Row_at1 (FU : Nat) (z : NSt) {i : Nat} (hi : i < 2000) : Row_at FU 1 (nI i) (up z) = some (nI (z.2 1 i)) := by
  unfold Row_at
  have e : lenF 1 = 2000 := rfl
  rw [e, if_neg (show ¬ nI i < (0 : Int32) from fun w => by
    rw [show (0 : Int32) = nI 0 from rfl, nI_ltI (by omega) (by decide)] at w
    omega), if_pos (nI_lt hi (by decide)), rdA_z z 1 hi (by decide), Option.bind_some]
theorem cl_byte {FU : Nat} {z : NSt} {A : AB} (h : FI z A) {i : Nat} (hi : i < 2 ^ 32) : Ans (FF_byteAt FU (nI i) (up z)) (byteA i A) := by
  have hc := h.1
  have hol := hc.ol
  unfold byteA FF_byteAt Row_length
  by_cases q : (0 : Int32) ≤ nI i
  · rw [if_pos q]
    rw [show (0 : Int32) = nI 0 from rfl, sGe (by decide) hi] at q
    rw [if_pos q.2, Option.bind_some, up1, hc.s1]
    by_cases q2 : nI A.ol ≤ nI i
    · rw [if_pos q2]
      rw [sGe (by omega) hi] at q2
      rw [if_neg (by omega)]
      exact Ev.ret ⟨z, rfl, h⟩
    · rw [if_neg q2]
      rw [sGe (by omega) hi] at q2
      rw [if_pos (show i < A.ol by omega), Row_at1 FU z (by omega), Option.bind_some, hc.tb i (by omega)]
      exact Ev.ret ⟨z, rfl, h⟩
  · rw [if_neg q]
    rw [show (0 : Int32) = nI 0 from rfl, sGe (by decide) hi] at q
    rw [if_neg (by omega)]
    exact Ev.ret ⟨z, rfl, h⟩
theorem OFF.io {z y x : NSt} {T R : TRE} {tk : TKS} {PP : Nat → Nat} {ch : List Nat} (h : OFF z x T R tk PP ch) (h1 : ∀ k, 5 ≤ k → y.1 k = z.1 k) (h2 : ∀ a, 4 ≤ a → y.2 a = z.2 a) (hw : WD y) : OFF y x T R tk PP ch := by
  have e : ∀ b, zV y b = zV z b := zV_congr (h2 4 (by decide))
  have hl := h.lw
  refine ⟨h.nw, fun b hb => by rw [e, h2 5 (by decide)]; exact h.dv b hb, by rw [e, e]; exact h.ho, ?_, by rw [h1 5 (by decide)]; exact h.z5, fun k k1 k2 => by rw [h1 k (by omega)]; exact h.sc k k1 k2, by rw [h2 6 (by decide)]; exact h.t6, by rw [h2 9 (by decide)]; exact h.t9, by rw [h2 10 (by decide), h2 11 (by decide)]; exact h.t10, by rw [h2 12 (by decide)]; exact h.t12, hw⟩
  unfold LGw zW at hl ⊢
  rw [h2 4 (by decide), h2 5 (by decide)]
  exact hl
theorem FI.io {z y : NSt} {A B : AB} (h : FI z A) (hc : FIC y B) (h1 : ∀ k, 5 ≤ k → y.1 k = z.1 k) (h2 : ∀ a, 4 ≤ a → y.2 a = z.2 a) (ed : B.dv = A.dv) (eT : B.T = A.T) (eO : B.O = A.O) (eS : B.S = A.S) (eF : B.F = A.F) (eu : B.us = A.us) (ef : B.fr = A.fr) (ek : B.tk = A.tk) (er : B.rm = A.rm) (en : B.rn = A.rn) : FI y B := by
  have eR : B.R = A.R := by unfold AB.R; rw [eO, eS, eF]
  refine ⟨hc, ?_⟩
  rcases h.2 with q | ⟨q, x, PP, ch, o⟩ | ⟨q, PP, ch, o⟩
  · exact Or.inl (by rw [ed]; exact q)
  · refine Or.inr (Or.inl ⟨by rw [ed]; exact q, x, PP, ch, ?_, by rw [ek]; exact o.se, by rw [er]; exact o.rs, o.f7, by rw [er]; exact o.s16⟩)
    rw [eT, eR, ek, eS]
    exact o.off.io h1 h2 hc.wd
  · exact Or.inr (Or.inr ⟨by rw [ed]; exact q, PP, ch, o.rows (fun k k1 _ => h1 k k1) h2 hc.wd eT eO eS eF eu ef ek er en⟩)
theorem FIC.len {z : NSt} {A : AB} (h : FIC z A) {k : Nat} (hk : k ≤ 2060) : FIC (zI z 0 k) (A.w_tl k) := by
  refine ⟨rfl, ?_, hk, h.ol, h.tp, h.tb, h.tpb, h.tbb, ?_, ?_, ?_, h.wd, h.bs⟩
  · exact h.s1
  · exact h.dv
  · exact h.ct
  · exact h.fw
theorem cl_tape {FU : Nat} {z : NSt} {A : AB} (h : FI z A) {k : Nat} (hk : k < 2 ^ 32) : Ev (FF_tape FU (nI k) (up z)) fun q => ∃ y, q = (nI (tapeA k A).2.1, up y) ∧ FI y (tapeA k A).2.2 := by
  have hc := h.1
  have htl := hc.tl
  have same : ¬ (0 < k ∧ k < A.tl) → Ev (FF_tape_b23 FU (up z)) fun q => ∃ y, q = (nI (tapeA k A).2.1, up y) ∧ FI y (tapeA k A).2.2 := fun q => by
    unfold FF_tape_b23 Row_length tapeA
    rw [Option.bind_some, up1, hc.s0, if_neg q]
    exact Ev.ret ⟨z, rfl, h⟩
  unfold FF_tape
  by_cases q : nI k ≤ (0 : Int32)
  · rw [if_pos q]
    rw [show (0 : Int32) = nI 0 from rfl, sLe hk (by decide)] at q
    exact same (by omega)
  · rw [if_neg q]
    rw [show (0 : Int32) = nI 0 from rfl, sLe hk (by decide)] at q
    show Ev ((Row_length FU 0 (up z)).bind _) _
    unfold Row_length
    rw [Option.bind_some, up1, hc.s0]
    by_cases q2 : nI A.tl ≤ nI k
    · rw [if_pos q2]
      rw [sGe (by omega) hk] at q2
      exact same (by omega)
    · rw [if_neg q2]
      rw [sGe (by omega) hk] at q2
      unfold Row_setLength FF_tape_b23 Row_length tapeA
      rw [nx_eq, up_I, Option.bind_some, Option.bind_some, if_pos ⟨by omega, by omega⟩]
      exact Ev.ret ⟨_, rfl, h.io (hc.len (by omega)) (fun j hj => by rw [zI1, if_neg (by omega)]) (fun a _ => rfl) rfl rfl rfl rfl rfl rfl rfl rfl rfl rfl⟩
theorem cl_feed {FU : Nat} (hF : 140000 < FU) {z : NSt} {A : AB} (h : FI z A) {w : Nat → Nat} (hw : ∀ j, j < 5 → w j < 2 ^ 32) : Ans (FF_feed FU (nI (w 0)) (nI (w 1)) (nI (w 2)) (nI (w 3)) (nI (w 4)) (up z)) (feedA w A) := by
  have hc := h.1
  have htl := hc.tl
  unfold feedA
  rw [feed_z (by omega) z w hw (by rw [hc.s0]; exact htl), hc.s0]
  by_cases q : 2040 < A.tl
  · rw [if_pos q, if_pos q]
    exact Ev.ret ⟨z, rfl, h⟩
  · rw [if_neg q, if_neg q]
    obtain ⟨y, ey⟩ : ∃ y, y = pushN z (gb w) 20 := ⟨_, rfl⟩
    have y1 : ∀ k, k ≠ 0 → y.1 k = z.1 k := fun k hk => by
      rw [ey]; unfold pushN; rw [zI1, if_neg hk]; rfl
    have y0 : y.1 0 = A.tl + 20 := by
      rw [ey]; unfold pushN; rw [zI1, if_pos rfl, hc.s0]
    have ya : ∀ a, a ≠ 0 → y.2 a = z.2 a := fun a ha => by
      rw [ey]; unfold pushN; rw [zI2, zR2, if_neg ha]
    have yt : ∀ i, y.2 0 i = if A.tl ≤ i ∧ i < A.tl + 20 then gb w (i - A.tl) else z.2 0 i := fun i => by
      rw [ey]; unfold pushN; rw [zI2, zR2, if_pos rfl, hc.s0]
    rw [← ey]
    have hwd : WD y := fun a a1 a2 i => by
      by_cases c : a = 0
      · rw [c, yt]
        split
        · have := gb_lt w (i - A.tl)
          omega
        · exact hc.wd 0 (by decide) (by decide) i
      · rw [ya a c]; exact hc.wd a a1 a2 i
    have hbs := hc.bs
    refine Ev.ret ⟨y, rfl, h.io (y := y) ⟨y0, ?_, show A.tl + 20 ≤ 2060 by omega, hc.ol, fun i hi => ?_, fun i hi => ?_, fun i hi => ?_, hc.tbb, ?_, ?_, ?_, hwd, ?_⟩ (fun k hk => y1 k (by omega)) (fun a ha => ya a (by omega)) rfl rfl rfl rfl rfl rfl rfl rfl rfl rfl⟩
    · rw [y1 1 (by decide)]; exact hc.s1
    · rw [yt]
      show _ = if A.tl ≤ i ∧ i < A.tl + 20 then gb w (i - A.tl) else A.tp i
      rw [hc.tp i hi]
    · rw [ya 1 (by decide)]; exact hc.tb i hi
    · show (if A.tl ≤ i ∧ i < A.tl + 20 then gb w (i - A.tl) else A.tp i) < 256
      split
      · exact gb_lt _ _
      · exact hc.tpb i hi
    · rw [y1 2 (by decide)]; exact hc.dv
    · rw [y1 3 (by decide)]; exact hc.ct
    · rw [y1 4 (by decide)]; exact hc.fw
    · unfold BS LGw zW at hbs ⊢
      rw [ya 4 (by decide), ya 5 (by decide), ya 6 (by decide), ya 9 (by decide), ya 12 (by decide)]
      exact hbs
