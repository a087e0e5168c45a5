/-! a file's inode comes last -/
theorem up_va2 (F : Nat → Nat → Nat) (id : Nat) (g : Nat → Nat) (k v : Nat) : up2' (va_up F id g) id k v = va_up F id (va_up g k v) := by
  unfold up2'
  rw [va_up_self]
  funext i
  by_cases c : i = id
  · rw [c, va_up_self, va_up_self]
  · rw [va_up_ne _ _ c, va_up_ne _ _ c, va_up_ne _ _ c]
theorem FOK.all {W : Nat → Nat → Nat} {I J bp : Nat → Nat} {f : FV} (h : FOK W I bp f) (hJ : ∀ i, i < 58 → J i = I i) : FOK W J bp f := h.cong (fun i hi => hJ i (by omega))
theorem finTree {z y z0 : NSt} {T R : TRE} {tk : TKS} {PP : Nat → Nat} {ch ch0 : List Nat} {id kk : Nat} {bp : Nat → Nat} {fv : FV} (h0 : NW z0 T R tk PP ch0) (h : MIC z z0 R tk PP ch id bp (fun _ => False)) (hk : T.kd id = 1) (hf : FOK (zV z) (z.2 13) bp fv) (hlk : z.2 13 2 = T.lk id) (hpn : PN z 13 id kk y) : va_up (BPL (zV z0) (z0.2 6)) id bp = BPL (zV y) (y.2 6) ∧ TOK (zV y) (y.2 6) (T.wFil (va_up T.fil id fv)) ∧ LED (zV y) (y.2 6) (T.wFil (va_up T.fil id fv)) := by
  obtain ⟨g1, g2, g3⟩ := h0.tok.rng id (by omega)
  have hi := h0.tok.ids id g1 g2
  have hw := h.wk
  have hky : KW z0 y := h.kw.trans hpn.kw
  have h69 := hpn.2.2.2.2.2.2.2.2.2.2.1
  have P : y.2 6 id = z.1 8 := by rw [hpn.2.2.1, va_up_self]
  have P' : ∀ n, n ≠ id → y.2 6 n = z.2 6 n := fun n q => by rw [hpn.2.2.1, va_up_ne _ _ q]
  have V : zV y (y.2 6 id) = cutW (ndW (z.2 13) id kk (z.1 11) (y.1 8)) := by rw [P, hpn.V, if_pos rfl]
  have Vlo : ∀ i, i < 59 → zV y (y.2 6 id) i = z.2 13 i := fun i hi => by rw [V, cutW_lo (by omega), ndW_lo _ _ _ _ _ hi]
  have V61 : zV y (y.2 6 id) 61 = id := by rw [V]; exact h.i0.2.2
  have zk : ∀ n, z.2 6 n ≠ 0 → zV y (z.2 6 n) = zV z (z.2 6 n) := fun n q => (hpn.kw.1 _ (by rw [(hw.p1 q).1]; decide)).2
  have z0k : ∀ n, z0.2 6 n ≠ 0 → zV y (z0.2 6 n) = zV z0 (z0.2 6 n) := fun n q => (hky.1 _ (h.w0 n q)).2
  -- the numbers of this file
  have hnb : ∀ j, j ≤ 7 → NB (zV y) (y.2 6) id j = nuI z j := fun j hj => by
    have h28 : zV y (y.2 6 id) 28 = nuI z 0 := Vlo 28 (by decide)
    unfold NB
    by_cases c0 : j = 0
    · rw [if_pos c0, c0, h28]
    · rw [if_neg c0, h28]
      by_cases c3 : j < 3
      · rw [if_pos c3, Vlo _ (by omega)]
        unfold nuI
        rw [if_neg c0, if_pos c3]
      · rw [if_neg c3]
        have := (h.cl 0 (by omega) (fun q => q)).1 (j - 3) (by omega)
        have e : nuI z j = cnt' z bp 0 (j - 3) := by
          unfold nuI cnt'
          rw [if_neg c0, if_neg c3, if_pos rfl]
        rw [e, this]
        by_cases q : nuI z 0 = 0
        · rw [if_pos q, if_pos q]
        · rw [if_neg q, if_neg q]
          have hr := h.rg 0 (by omega) q
          rw [P' _ (by omega), zk _ hr.2.2.1]
  have hbf : ∀ k, k < 412 → bpF (zV y) (y.2 6) id k = bp k := fun k hk' => by
    unfold bpF
    by_cases c : k < 20
    · rw [if_pos c, Vlo _ (by omega), h.b0 k c]
    · rw [if_neg c, hnb _ (by omega)]
      obtain ⟨j, ej⟩ : ∃ j, j = 1 + (k - 20) / 56 := ⟨_, rfl⟩
      have := (h.cl j (by omega) (fun q => q)).1 ((k - 20) % 56) (Nat.mod_lt _ (by decide))
      unfold cnt' at this
      rw [if_neg (by omega), show 20 + 56 * (j - 1) + (k - 20) % 56 = k by omega] at this
      rw [← ej, this]
      by_cases q : nuI z j = 0
      · rw [if_pos q, if_pos q]
      · rw [if_neg q, if_neg q]
        have hr := h.rg j (by omega) q
        rw [P' _ (by omega), zk _ hr.2.2.1]
  have hV0 : zV y (y.2 6 id) 0 = 1 := by rw [Vlo 0 (by decide), h.i0.1]
  have hbl : ∀ k, BPL (zV y) (y.2 6) id k = bp k := fun k => by
    by_cases c : k < 412
    · rw [BPL_f (by omega) g2 (by omega) c, hbf k c]
    · unfold BPL
      rw [if_neg (by omega), if_neg (by omega), if_neg c, h.b9 k (by omega)]
  -- other ids
  have hsame : ∀ i, i ≠ id → 1 ≤ i → i ≤ 250 → z0.2 6 i ≠ 0 → SAME (zV z0) (zV y) (z0.2 6) (y.2 6) i := fun i q v1 v2 v3 => by
    have hi' := h0.tok.ids i v1 v2
    have hk' : T.kd i ≠ 0 := fun w => v3 (hi'.pl.mpr w)
    refine ⟨by rw [P' i q, h.pid i v2], z0k i v3, fun w j hj v => ?_⟩
    rw [(hi'.kd hk').1] at w
    have h3 := (h0.tok.rng i hk').2.2
    have hr := (hi'.fil (by omega)).2.2.rng j hj v
    refine ⟨?_, z0k _ hr.2.2.1⟩
    rw [P' _ (by omega)]
    exact h.pot _ hr.1 hr.2.2.1 (by rw [hr.2.2.2.1]; exact q)
  have hbp : ∀ i, i ≠ id → ∀ k, BPL (zV y) (y.2 6) i k = BPL (zV z0) (z0.2 6) i k := fun i q k => by
    by_cases c : z0.2 6 i = 0 ∨ 250 < i
    · rw [BPL_0 c]
      by_cases c2 : 250 < i
      · rw [BPL_0 (Or.inr c2)]
      · have : z0.2 6 i = 0 := by omega
        rw [BPL_0 (Or.inl (by rw [P' i q, h.pid i (by omega)]; exact this))]
    · have c1 : i ≠ 0 := fun w => c (Or.inl (by rw [w]; exact h0.p0))
      exact (hsame i q (by omega) (by omega) (fun w => c (Or.inl w))).bpl k
  have hBP : va_up (BPL (zV z0) (z0.2 6)) id bp = BPL (zV y) (y.2 6) := by
    funext i k
    by_cases c : i = id
    · rw [c, va_up_self, hbl k]
    · rw [va_up_ne _ _ c, hbp i c]
  have hdat : ∀ k, bp k ≠ 0 → zV y (bp k) = zV z (bp k) := fun k q => by
    have hr := hw.tr.rb hw.lg (n := id) (i := k) (by rw [va_up_self]; exact q)
    rw [va_up_self] at hr
    exact (hpn.kw.1 _ (by rw [hr.2.2.2.2]; decide)).2
  refine ⟨hBP, ⟨fun i q => h0.tok.rng i q, fun i v1 v2 => ?_⟩, fun n n1 n2 => ?_⟩
  · by_cases c : i = id
    · rw [c]
      refine ⟨⟨fun q => ?_, fun q => ?_⟩, fun _ => ⟨?_, ?_, V61⟩, fun _ => ⟨?_, ?_, ?_⟩, fun q => ?_, fun q n => hi.noe q n⟩
      · omega
      · have q : T.kd id = 0 := q
        omega
      · rw [hV0]; exact hk.symm
      · rw [Vlo 58 (by decide), h.i0.2.1]
      · show FOK (zV y) (zV y (y.2 6 id)) (bpF (zV y) (y.2 6) id) (va_up T.fil id fv id)
        rw [va_up_self]
        exact (hf.keep (W' := zV y) (bp' := bpF (zV y) (y.2 6) id) hbf (fun k _ q => hdat k q)).all (fun i hi => Vlo i (by omega))
      · rw [Vlo 2 (by decide), hlk]
        rfl
      · refine ⟨fun j hj q => ?_, fun j j' hj hj' q e => ?_, fun j j1 hj q => ?_, fun q => ?_⟩
        · rw [hnb j hj] at q ⊢
          have hr := h.rg j hj q
          rw [P' _ (by omega), zk _ hr.2.2.1]
          exact hr
        · rw [hnb j hj] at q e
          rw [hnb j' hj'] at e
          exact h.nj j j' hj hj' q e
        · rw [hnb j hj] at q ⊢
          have hr := h.rg j hj q
          obtain ⟨v1, v2⟩ := h.cl j hj (fun q => q)
          obtain ⟨i, w1, w2⟩ := v2 q
          refine ⟨i, w1, ?_⟩
          rw [v1 i w1, if_neg q] at w2
          rw [P' _ (by omega), zk _ hr.2.2.1]
          exact w2
        · rw [hnb 0 (by omega)] at q ⊢
          have hr := h.rg 0 (by omega) q
          obtain ⟨v1, v2⟩ := h.cl 0 (by omega) (fun q => q)
          have hx : ∀ i, i < 56 → zV y (y.2 6 (nuI z 0)) i = z.2 14 i := fun i hi => by
            have := v1 i hi
            rw [if_neg q] at this
            rw [P' _ (by omega), zk _ hr.2.2.1, ← this]
            rfl
          refine ⟨fun i w1 w2 => by rw [hx i w2]; exact h.xz i w1 w2, ?_⟩
          obtain ⟨i, w1, w2⟩ := v2 q
          have w2 : z.2 14 i ≠ 0 := w2
          by_cases c5 : i < 5
          · exact ⟨i, c5, by rw [hx i w1]; exact w2⟩
          · exact absurd (h.xz i (by omega) w1) w2
      · have q : T.kd id = 2 := q
        omega
    · exact (h0.tok.ids i v1 v2).same v2 ⟨rfl, rfl, rfl, rfl, va_up_ne _ _ c⟩ (hsame i c v1 v2) (fun q => by rw [P' i c, h.pid i v2]; exact q) (fun k q => (hky.1 _ (by rw [(h0.wk.tr.rb h0.wk.lg q).2.2.2.2]; decide)).2)
  · rw [P' n (by omega)] at n2
    rcases h.pnw n n1 n2 with ⟨-, j, v2, v3⟩ | ⟨v1, v2⟩
    · exact ⟨id, j, hk, v2, by rw [hnb j v2, v3]⟩
    · rw [v2] at n2 v1
      rw [(h.kw.1 _ (h.w0 n n2)).2] at v1
      obtain ⟨i, j, l1, l2, l3⟩ := h0.led n n1 n2
      obtain ⟨q1, q2, q3⟩ := h0.tok.rng i (by omega)
      have hr := ((h0.tok.ids i q1 q2).fil l1).2.2.rng j l2 (by omega)
      rw [l3] at hr
      have hne : i ≠ id := fun q => v1 (by rw [hr.2.2.2.1, q])
      have hpi : z0.2 6 i ≠ 0 := fun w => by
        have := (h0.tok.ids i q1 q2).pl.mp w
        omega
      refine ⟨i, j, l1, l2, ?_⟩
      rw [(hsame i hne q1 q2 hpi).nb (by rw [((h0.tok.ids i q1 q2).kd (by omega)).1]; omega), l3]
theorem finNode_s {FU : Nat} (hF : 140000 < FU) {z z0 : NSt} {T R : TRE} {tk : TKS} {PP : Nat → Nat} {ch ch0 : List Nat} {id : Nat} {bp : Nat → Nat} {fv : FV} (h0 : NW z0 T R tk PP ch0) (h : MIC z z0 R tk PP ch id bp (fun _ => False)) (hk : T.kd id = 1) (hf : FOK (zV z) (z.2 13) bp fv) (hlk : z.2 13 2 = T.lk id) (hU : 33 ≤ Uz z) (hse : z.1 11 < 2 ^ 32) :
    Ev (Fil_finish_b34 FU (0 : Int32) (up z)) fun r => ∃ y ch', r = up y ∧ NW y (T.wFil (va_up T.fil id fv)) R tk PP ch' ∧ FR z0 y ∧ y.2 8 = z0.2 8 ∧ Uz y + 1 = Uz z ∧ KC y = KC z ∧ y.2 13 1 = z.2 13 1 := by
  obtain ⟨g1, g2, g3⟩ := h0.tok.rng id (by omega)
  have hi := h0.tok.ids id g1 g2
  have hw := h.wk
  have hp0 : z0.2 6 id ≠ 0 := fun q => by
    have := hi.pl.mp q
    omega
  have hpz : z.2 6 id ≠ 0 := by rw [h.pid id g2]; exact hp0
  unfold Fil_finish_b34
  rw [up1, h.hid, show (0 : Int32) = nI 0 from rfl]
  refine (putNode_s (k := 0) (by omega) rfl (by decide) hw.lg hU g1 (by omega) (Or.inr (by rw [(hw.p1 hpz).2.2.2]; decide))).bd ?_
  rintro _ ⟨y, rfl, hy, hpn⟩
  have hwy := hw.node (by decide) hpn hy g1 (by omega) (by rw [h.i0.2.2]; exact g1) (by rw [h.i0.2.2]; exact g2) (fun _ => h.i0.2.2) (fun q => by omega) hse
  obtain ⟨hBP, ht, hl⟩ := finTree h0 h hk hf hlk hpn
  rw [hBP] at hwy
  refine Ev.ret ⟨y, _, rfl, ⟨hwy, ht, hl⟩, h.fr.1.trans (hpn.fr (by decide)).1, by rw [(hpn.fr (by decide)).2, h.fr.2], hpn.2.2.2.2.2.2.2.1, ?_, ?_⟩
  · exact KC_congr (hpn.2.2.2.2.2.1 7 (by decide) (by decide) (by decide) (by decide) (by decide) (by decide) (by decide) (by decide))
  · rw [hpn.2.2.2.2.1, ndW_lo _ _ _ _ _ (by decide)]
theorem MIC.clean {z z0 : NSt} {R : TRE} {tk : TKS} {PP : Nat → Nat} {ch : List Nat} {id : Nat} {bp : Nat → Nat} {dirty dirty' : Nat → Prop} (h : MIC z z0 R tk PP ch id bp dirty) (hd : ∀ j, j ≤ 7 → ¬ dirty' j → ¬ dirty j) : MIC z z0 R tk PP ch id bp dirty' :=
  ⟨h.wk, h.kw, h.w0, h.hid, h.pid, h.pot, h.pnw, h.xz, h.rg, h.nj, h.b0, h.b9, fun j hj q => h.cl j hj (hd j hj q), h.i0, h.kc, h.fr⟩
theorem MIC.bw {z z0 : NSt} {R : TRE} {tk : TKS} {PP : Nat → Nat} {ch : List Nat} {id : Nat} {bp : Nat → Nat} {dirty : Nat → Prop} (h : MIC z z0 R tk PP ch id bp dirty) {k : Nat} (hk : bp k ≠ 0) : z.2 5 (bp k) = 1 ∧ 69 ≤ bp k ∧ bp k < 2117 ∧ z.2 9 (bp k) = 2 := by
  have hr := h.wk.tr.rb h.wk.lg (n := id) (i := k) (by rw [va_up_self]; exact hk)
  rw [va_up_self] at hr
  exact ⟨hr.2.2.2.2, hr.1, hr.2.2.1, hr.2.2.2.1⟩
theorem finish_s {FU : Nat} (hF : 140000 < FU) {z z0 : NSt} {T R : TRE} {tk : TKS} {PP : Nat → Nat} {ch ch0 : List Nat} {id : Nat} {bp : Nat → Nat} {fv : FV} (h0 : NW z0 T R tk PP ch0) (h : MID z z0 R tk PP ch id bp) (hk : T.kd id = 1) (hf : FOK (zV z) (z.2 13) bp fv) (hlk : z.2 13 2 = T.lk id) (hU : 36 ≤ Uz z) (hse : z.1 11 < 2 ^ 32) (hK : KC z + 2 < 1797) :
    Ev (Fil_finish FU (0 : Int32) (up z)) fun r => ∃ y ch', r = up y ∧ NW y (T.wFil (va_up T.fil id fv)) R tk PP ch' ∧ FR z0 y ∧ y.2 8 = z0.2 8 ∧ Uz z ≤ Uz y + 2 + z.1 14 ∧ KC y + Uz y ≤ KC z0 + Uz z0 ∧ y.2 13 1 = z.2 13 1 := by
  obtain ⟨g1, g2, g3⟩ := h0.tok.rng id (by omega)
  unfold Fil_finish
  refine (closeNode_s hF h g1 g2 (by omega) hse (by omega)).bd ?_
  rintro _ ⟨x, ch1, rfl, hx, x14, x13, kwx, xI, x16, xu1, xu2, xu3, xkc, xu0⟩
  have hmx := hx.mc
  have hdc := h.dc
  have xu4 : Uz z ≤ Uz x + z.1 14 := by
    by_cases q : z.1 14 = 0
    · have := xu0 q; omega
    · omega
  have hx11 : x.1 11 = z.1 11 := by rw [hmx.fr.1.1 11 (by decide) (by decide) (by decide) (by decide) (by decide) (by decide) (by decide) (by decide), h.mc.fr.1.1 11 (by decide) (by decide) (by decide) (by decide) (by decide) (by decide) (by decide) (by decide)]
  have hfx : FOK (zV x) (x.2 13) bp fv := (hf.keep (W' := zV x) (fun k _ => rfl) (fun k _ q => (kwx.1 _ (by rw [(h.mc.bw q).1]; decide)).2)).cong (fun i hi => xI i (by omega) (by omega) (by omega))
  rw [up1]
  by_cases c : x.1 15 = 0
  · rw [c, if_pos i00]
    refine (finNode_s hF h0 (hmx.clean (dirty' := fun _ => False) (fun j _ _ => by
      rintro (⟨-, -, q⟩ | ⟨-, q⟩) <;> omega)) hk hfx (by rw [xI 2 (by decide) (by decide) (by decide)]; exact hlk) (by omega) (by omega)).mono ?_
    rintro _ ⟨y, ch', rfl, n1, n2, n3, n4, n5, n6⟩
    have := hmx.kc
    exact ⟨y, ch', rfl, n1, n2, n3, by omega, by omega, by rw [n6, xI 1 (by decide) (by decide) (by decide)]⟩
  · have hic := hx.ic
    have c1 : x.1 15 = 1 := by omega
    rw [c1, if_neg (by decide), show (28 : Int32) = nI 28 from rfl, rdA_z x 13 (by decide) (by decide), Option.bind_some]
    refine (storeNode_s hF hmx g1 g2 (o := 0) (a := 14) (lvl := 2) (Or.inl ⟨rfl, rfl, rfl⟩) (by omega) (by omega) (by omega)).bd ?_
    rintro _ ⟨w, ch2, n', rfl, hw, sn⟩
    have hn32 : n' < 2 ^ 32 := by
      rcases sn.cs with ⟨q, -⟩ | ⟨-, -, q, -⟩ <;> omega
    rw [wrA_z w 13 (by decide) (by decide), Option.bind_some]
    obtain ⟨y, ey⟩ : ∃ y, y = zA w 13 28 n' := ⟨_, rfl⟩
    have ya : ∀ c, c ≠ 13 → y.2 c = w.2 c := fun c hc => by rw [ey, zA2, if_neg hc]
    have y1 : y.1 = w.1 := by rw [ey]; rfl
    have w13 : w.2 13 = x.2 13 := sn.ar 13 (by decide) (by decide)
    have yI : ∀ i, y.2 13 i = if i = 28 then n' else x.2 13 i := fun i => by
      rw [ey, zA2, if_pos rfl, w13]
      rfl
    have wy : WK y (va_up (BPL (zV z0) (z0.2 6)) id bp) R tk PP ch2 := by rw [ey]; exact hw.setA (by decide) hn32
    have hVy : ∀ b, zV y b = zV w b := fun b => zV_congr (ya 4 (by decide)) b
    have y6 : y.2 6 = w.2 6 := ya 6 (by decide)
    have kwy : KW w y := KW.of4 (ya 4 (by decide)) (ya 5 (by decide))
    have uy : Uz y = Uz w := Uz_frame (fun k _ _ => by rw [y1])
    have hKy : KC y = KC w := KC_congr (ya 7 (by decide))
    have hkc := sn.kc
    rw [← ey]
    have huw : Uz x ≤ Uz w + 1 ∧ Uz w ≤ Uz x := by
      rcases sn.cs with ⟨-, -, -, q⟩ | ⟨-, -, -, -, -, -, -, -, -, -, q⟩ <;> omega
    have hmy : MIC y z0 R tk PP ch2 id bp (fun _ => False) := by
      refine hmx.store (o := 0) (n' := n') (a := 14) (lvl := 2) wy (sn.kw.trans kwy) ?_ ⟨⟨fun k a1 a2 a3 a4 a5 a6 a7 a8 => ?_, fun c hc => ?_⟩, ?_⟩ (by omega) (fun j hj => ?_) (fun i e1 e2 e3 e4 => ?_) (fun i e1 e2 => ?_) (fun q i hi => ?_) (fun m m1 m2 => by rw [y6]; exact sn.P m m1 m2) ?_ (fun i hi => rfl) (fun j _ jo => ?_) (by omega) rfl
      · rw [y1, sn.sc 12 (by decide) (by decide) (by decide) (by decide)]
      · rw [y1, sn.sc k a1 a2 a3 a4]
      · rw [ya c (by omega), sn.f3.1 c hc]
      · rw [ya 8 (by decide), sn.f3.2]
      · unfold nuI
        rw [yI 28, if_pos rfl, yI (25 + j), ya 14 (by decide)]
        by_cases c0 : j = 0
        · rw [if_pos c0, if_pos c0]
        · rw [if_neg c0, if_neg c0]
          by_cases c3 : j < 3
          · rw [if_pos c3, if_neg (by omega), if_neg c0, if_pos c3]
          · rw [if_neg c3, if_neg c0, if_neg c3, sn.aa _ (by omega)]
      · rw [yI, if_neg e3]
      · rw [ya 14 (by decide), sn.aa i (by omega)]
      · rw [ya 14 (by decide), sn.aa i (by omega)]
      · rcases sn.cs with ⟨q1, q2, q3, -⟩ | ⟨q1, q2, q3, q4, q5, q6, q7, q8, q9, q10, -⟩
        · exact Or.inl ⟨q1, q2, fun v => by rw [y6]; exact q3 v⟩
        · exact Or.inr ⟨q1, q2, q3, by rw [y6]; exact q4, by rw [y6, hVy]; exact q5, by rw [y6, hVy]; exact q6, fun i hi => by rw [y6, hVy]; exact q7 i hi, q8, q9, q10⟩
      · rintro (⟨-, -, q⟩ | ⟨q, -⟩)
        · omega
        · exact jo q
    have hfy : FOK (zV y) (y.2 13) bp fv := (hfx.keep (W' := zV y) (fun k _ => rfl) (fun k _ q => ((sn.kw.trans kwy).1 _ (by rw [(hmx.bw q).1]; decide)).2)).cong (fun i hi => by rw [yI, if_neg (by omega)])
    have hy11 : y.1 11 = x.1 11 := by rw [y1, sn.sc 11 (by decide) (by decide) (by decide) (by decide)]
    refine (finNode_s hF h0 hmy hk hfy (by rw [yI, if_neg (by decide), xI 2 (by decide) (by decide) (by decide)]; exact hlk) (by omega) (by omega)).mono ?_
    rintro _ ⟨v, ch', rfl, n1, n2, n3, n4, n5, n6⟩
    have := hmy.kc
    exact ⟨v, ch', rfl, n1, n2, n3, by omega, by omega, by rw [n6, yI, if_neg (by decide), xI 1 (by decide) (by decide) (by decide)]⟩
