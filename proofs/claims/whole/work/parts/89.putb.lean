/-! write as a whole -/
theorem MID.mem {z y z0 : NSt} {R : TRE} {tk : TKS} {PP : Nat → Nat} {ch : List Nat} {id : Nat} {bp : Nat → Nat} (h : MID z z0 R tk PP ch id bp) (e1 : y.1 = z.1) (e2 : ∀ c, c ≠ 13 → c ≠ 16 → y.2 c = z.2 c) (e13 : ∀ i, i = 0 ∨ (6 ≤ i ∧ i < 29) ∨ i = 58 ∨ i = 61 → y.2 13 i = z.2 13 i) (w13 : ∀ i, y.2 13 i < 2 ^ 32) (w16 : ∀ i, y.2 16 i < 2 ^ 32) : MID y z0 R tk PP ch id bp := by
  have hmc := h.mc
  have hnu : ∀ j, j ≤ 7 → nuI y j = nuI z j := fun j hj => by
    by_cases c0 : j = 0
    · rw [c0]
      exact e13 28 (by omega)
    · by_cases c3 : j < 3
      · rw [nuI_lo (by omega) c3, nuI_lo (by omega) c3, e13 _ (by omega)]
      · rw [nuI_hi (by omega), nuI_hi (by omega), e2 14 (by decide) (by decide)]
  have y6 : y.2 6 = z.2 6 := e2 6 (by decide) (by decide)
  have hV : ∀ b, zV y b = zV z b := fun b => zV_congr (e2 4 (by decide) (by decide)) b
  have kwy : KW z y := KW.of4 (e2 4 (by decide) (by decide)) (e2 5 (by decide) (by decide))
  have hcn : ∀ j i, cnt' y bp j i = cnt' z bp j i := fun j i => by unfold cnt'; rw [e2 14 (by decide) (by decide)]
  have wy : WK y (va_up (BPL (zV z0) (z0.2 6)) id bp) R tk PP ch := by
    refine hmc.wk.mem (fun j _ _ => by rw [e1]) (fun b _ _ _ _ => e2 b (by omega) (by omega)) (fun n _ => Or.inl (by rw [e2 7 (by decide) (by decide)])) (fun b b1 b2 i => ?_)
    by_cases q13 : b = 13
    · rw [q13]; exact w13 i
    · by_cases q16 : b = 16
      · rw [q16]; exact w16 i
      · rw [e2 b q13 q16]; exact hmc.wk.wd b b1 b2 i
  have uy : Uz y = Uz z := Uz_frame (fun j _ _ => by rw [e1])
  have hKy : KC y = KC z := KC_congr (e2 7 (by decide) (by decide))
  refine ⟨⟨wy, hmc.kw.trans kwy, hmc.w0, by rw [e1]; exact hmc.hid, fun m q => by rw [y6]; exact hmc.pid m q, fun m a b c => by rw [y6]; exact hmc.pot m a b c, fun m a b => ?_, fun i a b => by rw [e2 14 (by decide) (by decide)]; exact hmc.xz i a b, fun j hj q => ?_, fun j j' hj hj' q e => ?_, fun k q => by rw [e13 _ (by omega)]; exact hmc.b0 k q, hmc.b9, fun j hj q => ?_, by rw [e13 0 (by omega), e13 58 (by omega), e13 61 (by omega)]; exact hmc.i0, by rw [uy, hKy]; exact hmc.kc, ⟨hmc.fr.1.trans ⟨fun k _ _ _ _ _ _ _ _ => by rw [e1], fun c hc => e2 c (by omega) (by omega)⟩, by rw [e2 8 (by decide) (by decide)]; exact hmc.fr.2⟩⟩, by rw [e1]; exact h.op, by rw [e1]; exact h.dc, by rw [e1]; exact h.ic, by rw [e1]; exact h.d0, fun q i hi => by rw [e1] at q ⊢; rw [e2 15 (by decide) (by decide)]; exact h.bo q i hi⟩
  · rw [y6] at b ⊢
    rw [hV]
    rcases hmc.pnw m a b with ⟨v1, j, v2, v3⟩ | q
    · exact Or.inl ⟨v1, j, v2, by rw [hnu j v2]; exact v3⟩
    · exact Or.inr q
  · rw [hnu j hj] at q ⊢
    rw [y6, hV]
    exact hmc.rg j hj q
  · rw [hnu j hj] at q e
    rw [hnu j' hj'] at e
    exact hmc.nj j j' hj hj' q e
  · rw [e1] at q
    obtain ⟨v1, v2⟩ := hmc.cl j hj q
    rw [hnu j hj, y6]
    refine ⟨fun i hi => by rw [hcn, v1 i hi, hV], fun w => ?_⟩
    obtain ⟨i, w1, w2⟩ := v2 w
    exact ⟨i, w1, by rw [hcn]; exact w2⟩
/-- a small file gets its first block -/
theorem leaveSmall_s {FU : Nat} (hF : 140000 < FU) {z z0 : NSt} {R : TRE} {tk : TKS} {PP : Nat → Nat} {ch : List Nat} {id : Nat} {bp : Nat → Nat} (h : MID z z0 R tk PP ch id bp) (hb : bp 0 = 0) (hU : 33 ≤ Uz z) :
    Ev (Fil_leaveSmall FU (up z)) fun r => ∃ y D, r = up y ∧ MID y z0 R tk PP ch id (va_up bp 0 D) ∧ 69 ≤ D ∧ KW z y ∧ (∀ i, i < 256 → gb (zV y D) i = if i < 96 then gb (fun j => z.2 13 (30 + j)) i else 0) ∧ y.2 13 1 = z.2 13 1 ∧ y.2 13 2 = z.2 13 2 ∧ y.2 13 3 = 0 ∧ y.2 13 4 = 1 ∧ (∀ j, j < 24 → y.2 13 (30 + j) = 0) ∧ Uz y + 1 = Uz z ∧ KC y = KC z ∧ y.1 13 = z.1 13 ∧ y.1 14 = z.1 14 := by
  have hw := h.mc.wk
  unfold Fil_leaveSmall
  rw [show (0 : Int32) = nI 0 from rfl, fill0_z 16 0 z (by show 64 < FU; omega), Option.bind_some, show (30 : Int32) = nI 30 from rfl, show (24 : Int32) = nI 24 from rfl, cpy_z _ 13 16 (by decide) (by decide) (by decide) (by decide), Option.bind_some]
  obtain ⟨z1, e1⟩ : ∃ z1, z1 = zR (zR z 16 (flN (z.2 16) 0 (lenF 16) 0)) 16 (va_cpy ((zR z 16 (flN (z.2 16) 0 (lenF 16) 0)).2 13) ((zR z 16 (flN (z.2 16) 0 (lenF 16) 0)).2 16) 30 0 24) := ⟨_, rfl⟩
  have a1 : ∀ c, c ≠ 16 → z1.2 c = z.2 c := fun c hc => by rw [e1, zR2, if_neg hc, zR2, if_neg hc]
  have s1 : z1.1 = z.1 := by rw [e1]; rfl
  have m1 : ∀ i, i < 64 → z1.2 16 i = if i < 24 then z.2 13 (30 + i) else 0 := fun i hi => by
    rw [e1, zR2, if_pos rfl]
    unfold va_cpy
    by_cases c : i < 24
    · rw [if_pos (by omega), if_pos c, zR2, if_neg (by decide), Nat.sub_zero]
    · rw [if_neg (by omega), if_neg c, zR2, if_pos rfl]
      exact if_pos ⟨by omega, hi⟩
  have w1 : ∀ i, z1.2 16 i < 2 ^ 32 := fun i => by
    rw [e1, zR2, if_pos rfl]
    unfold va_cpy
    split
    · rw [zR2, if_neg (by decide)]; exact hw.wd 13 (by decide) (by decide) _
    · rw [zR2, if_pos rfl]
      unfold flN
      split
      · decide
      · exact hw.wd 16 (by decide) (by decide) _
  have h1 : MID z1 z0 R tk PP ch id bp := h.mem s1 (fun c _ c16 => a1 c c16) (fun i _ => by rw [a1 13 (by decide)]) (fun i => by rw [a1 13 (by decide)]; exact hw.wd 13 (by decide) (by decide) i) w1
  rw [← e1, show (96 : Int32) = nI 96 from rfl]
  refine (clearFrom_s (FU := FU) 13 30 (lo := 0) (hi := 96) (by omega) (by decide) (by decide) (by decide) z1).bd ?_
  rintro _ ⟨x, rfl, hx⟩
  have xI : ∀ i, i < 30 ∨ 54 ≤ i → x.2 13 i = z.2 13 i := fun i hi => by rw [hx.out i (by omega), a1 13 (by decide)]
  have xz : ∀ j, j < 24 → x.2 13 (30 + j) = 0 := fun j hj => by
    have hwx : ∀ j, x.2 13 j < 2 ^ 32 := hx.wd (fun j => by rw [a1 13 (by decide)]; exact hw.wd 13 (by decide) (by decide) j)
    have := words_eq (f := fun j => x.2 13 (30 + j)) (g := fun _ => 0) (m := 24) (fun j _ => hwx _) (fun j _ => by decide) (fun i hi => by
      rw [hx.by' i, if_pos ⟨by omega, by omega⟩]
      exact (gb_0 rfl).symm) j hj
    exact this
  have hxm : WK x (va_up (BPL (zV z0) (z0.2 6)) id (va_up bp 0 0)) R tk PP ch := by
    rw [up_same hb]
    exact BYT.wk h1.mc.wk (by decide) hx
  have xa : ∀ c, c ≠ 13 → x.2 c = z1.2 c := hx.ar
  obtain ⟨D, w, er, hW, d1, d2, d3, kww, wI, wu, wkc, dy, ws, ws14⟩ := repl_s hF h1 (k := 0) (by decide) (fun q => by omega) hxm (KW.of4 (xa 4 (by decide)) (xa 5 (by decide))) (xa 6 (by decide)) (fun i hi => by rw [xI i (by omega), a1 13 (by decide)]) (xa 14 (by decide)) (xa 15 (by decide)) hx.s (xa 7 (by decide)) ⟨fun a ha => xa a (by omega), xa 8 (by decide)⟩ (by
    have : Uz z1 = Uz z := Uz_frame (fun j _ _ => by rw [s1])
    omega)
  rw [er, Option.bind_some]
  show Ev ((wrA 64 (up w) 13 (nI 6) (nI D)).bind _) _
  have hst : stP w 0 D = zA w 13 6 D := if_neg (by omega)
  rw [hst] at hW d3 kww wI wu wkc ws ws14
  rw [wrA_z w 13 (by decide) (by decide), Option.bind_some, show (3 : Int32) = nI 3 from rfl, wrA_z _ 13 (by decide) (by decide), Option.bind_some, show (4 : Int32) = nI 4 from rfl, show (1 : Int32) = nI 1 from rfl, wrA_z _ 13 (by decide) (by decide), Option.bind_some]
  obtain ⟨v, ev⟩ : ∃ v, v = zA w 13 6 D := ⟨_, rfl⟩
  rw [← ev] at hW d3 kww wI wu wkc ws ws14 ⊢
  obtain ⟨y, ey⟩ : ∃ y, y = zA (zA v 13 3 0) 13 4 1 := ⟨_, rfl⟩
  have ya : ∀ c, c ≠ 13 → y.2 c = v.2 c := fun c hc => by rw [ey, zA2, if_neg hc, zA2, if_neg hc]
  have ym : ∀ i, y.2 13 i = if i = 4 then 1 else if i = 3 then 0 else v.2 13 i := fun i => by
    rw [ey, zA2, if_pos rfl]
    unfold va_up
    by_cases c4 : i = 4
    · rw [if_pos c4, if_pos c4]
    · rw [if_neg c4, if_neg c4, zA2, if_pos rfl]
      rfl
  have y1 : y.1 = v.1 := by rw [ey]; rfl
  rw [← ey]
  have hu1 : Uz z1 = Uz z := Uz_frame (fun j _ _ => by rw [s1])
  have k1 : KW z z1 := KW.of4 (a1 4 (by decide)) (a1 5 (by decide))
  refine Ev.ret ⟨y, D, rfl, hW.mem y1 (fun c c13 _ => ya c c13) (fun i hi => by rw [ym, if_neg (by omega), if_neg (by omega)]) (fun i => ?_) (fun i => by rw [ya 16 (by decide)]; exact hW.mc.wk.wd 16 (by decide) (by decide) i), d1, (k1.trans kww).trans (KW.of4 (ya 4 (by decide)) (ya 5 (by decide))), fun i hi => ?_, ?_, ?_, ?_, ?_, fun j hj => ?_, ?_, ?_, ?_, ?_⟩
  · rw [ym]
    split
    · decide
    · split
      · decide
      · exact hW.mc.wk.wd 13 (by decide) (by decide) i
  · rw [zV_congr (ya 4 (by decide)), d3, cut_gb hi, xa 16 (by decide)]
    by_cases c : i < 96
    · rw [if_pos c]
      refine gb_congr ?_
      rw [m1 _ (by omega), if_pos (by omega)]
    · rw [if_neg c]
      refine gb_0 ?_
      rw [m1 _ (by omega), if_neg (by omega)]
  · rw [ym, if_neg (by decide), if_neg (by decide), wI 1 (by omega), xI 1 (by omega)]
  · rw [ym, if_neg (by decide), if_neg (by decide), wI 2 (by omega), xI 2 (by omega)]
  · rw [ym, if_neg (by decide), if_pos rfl]
  · rw [ym, if_pos rfl]
  · rw [ym, if_neg (by omega), if_neg (by omega), wI _ (by omega), xz j hj]
  · have : Uz y = Uz v := Uz_frame (fun j _ _ => by rw [y1])
    omega
  · rw [KC_congr (ya 7 (by decide)), wkc, KC_congr (a1 7 (by decide))]
  · rw [y1, ws 13 (by decide) (by decide) (by decide) (by decide), s1]
  · rw [y1, ws14, if_neg (by decide), s1]
def wrF (f : FV) (at' n : Nat) (tp : Nat → Nat) : FV := FV.of (if f.sz < at' + n then at' + n else f.sz) (if f.sm = 1 ∧ at' + n ≤ 96 then 1 else 0) (fun k => if f.sm = 1 ∧ at' + n ≤ 96 then 0 else if (at' / 256 ≤ k ∧ k ≤ (at' + n - 1) / 256) ∨ (f.sm = 1 ∧ k = 0) then 1 else f.has k) (fun i => if at' ≤ i ∧ i < at' + n then tp (i - at') % 256 else f.byt i)
theorem end139_s {FU : Nat} (hF : 140000 < FU) {y z0 : NSt} {T R : TRE} {tk : TKS} {PP : Nat → Nat} {ch ch0 : List Nat} {id : Nat} {bp : Nat → Nat} {fv : FV} {at' n : Nat} (h0 : NW z0 T R tk PP ch0) (h : MID y z0 R tk PP ch id bp) (hk : T.kd id = 1) (h1 : y.2 13 1 ≤ 100000) (hat : at' + n ≤ 100000) (hf : FOK (zV y) (va_up (y.2 13) 1 (if y.2 13 1 < at' + n then at' + n else y.2 13 1)) bp fv) (hlk : y.2 13 2 = T.lk id) (hU : 36 ≤ Uz y) (hse : z0.1 11 < 2 ^ 32) (hK : KC y + 2 < 1797) :
    Ev (Fil_putBytes_b139 FU 0 (nI at') (nI n) (up y)) fun r => ∃ w ch', r = (nI fv.sz, up w) ∧ NW w (T.wFil (va_up T.fil id fv)) R tk PP ch' ∧ FR z0 w ∧ w.2 8 = z0.2 8 ∧ Uz y ≤ Uz w + 3 ∧ KC w + Uz w ≤ KC z0 + Uz z0 := by
  unfold Fil_putBytes_b139
  obtain ⟨S, eS⟩ : ∃ S, S = (if y.2 13 1 < at' + n then at' + n else y.2 13 1) := ⟨_, rfl⟩
  have e : (if nI (y.2 13 1) < nI (at' + n) then nI (at' + n) else nI (y.2 13 1)) = nI S := by
    rw [eS]
    simp (disch := omega) only [nI_ltI]
    split <;> rfl
  have hS : S ≤ 100000 := by rw [eS]; split <;> omega
  rw [show (1 : Int32) = nI 1 from rfl, rdA_z y 13 (by decide) (by decide), Option.bind_some, nI_add, e, wrA_z y 13 (by decide) (by decide), Option.bind_some]
  rw [← eS] at hf
  obtain ⟨x, ex⟩ : ∃ x, x = zA y 13 1 S := ⟨_, rfl⟩
  have xa : ∀ c, c ≠ 13 → x.2 c = y.2 c := fun c hc => by rw [ex, zA2, if_neg hc]
  have x13 : x.2 13 = va_up (y.2 13) 1 S := by rw [ex, zA2, if_pos rfl]
  have x1 : x.1 = y.1 := by rw [ex]; rfl
  have hx : MID x z0 R tk PP ch id bp := h.mem x1 (fun c c13 _ => xa c c13) (fun i hi => by rw [x13, va_up_ne _ _ (by omega)]) (fun i => by
    rw [x13]
    unfold va_up
    split
    · omega
    · exact h.mc.wk.wd 13 (by decide) (by decide) i) (fun i => by rw [xa 16 (by decide)]; exact h.mc.wk.wd 16 (by decide) (by decide) i)
  have hV : zV x = zV y := funext (zV_congr (xa 4 (by decide)))
  have ux : Uz x = Uz y := Uz_frame (fun j _ _ => by rw [x1])
  have hKx : KC x = KC y := KC_congr (xa 7 (by decide))
  have hx11 : x.1 11 = z0.1 11 := hx.mc.fr.1.1 11 (by decide) (by decide) (by decide) (by decide) (by decide) (by decide) (by decide) (by decide)
  have hdc := hx.dc
  rw [← ex]
  refine (finish_s hF h0 hx hk (fv := fv) (by rw [hV, x13]; exact hf) (by rw [x13, va_up_ne _ _ (by decide)]; exact hlk) (by omega) (by omega) (by omega)).bd ?_
  rintro _ ⟨w, ch', rfl, n1, n2, n3, n4, n5, n6⟩
  rw [rdA_z w 13 (by decide) (by decide), Option.bind_some]
  refine Ev.ret ⟨w, ch', ?_, n1, n2, n3, by omega, n5⟩
  rw [n6, x13, va_up_self]
  have := hf.sz
  rw [va_up_self] at this
  rw [this]
theorem putBytes_s {FU : Nat} (hF : 140000 < FU) {z0 : NSt} {T R : TRE} {tk : TKS} {PP : Nat → Nat} {ch0 : List Nat} {id at' n : Nat} (h0 : NW z0 T R tk PP ch0) (hk : T.kd id = 1) (hn1 : 1 ≤ n) (hn2 : n ≤ 2000) (hat : at' + n ≤ 100000) (hU : 80 ≤ Uz z0) (hse : z0.1 11 < 2 ^ 32) (hK : KC z0 ≤ 1700) :
    Ev (Fil_putBytes FU 0 (nI id) (nI at') (nI n) (up z0)) fun r => ∃ w ch', r = (nI (wrF (T.fil id) at' n (z0.2 0)).sz, up w) ∧ NW w (T.wFil (va_up T.fil id (wrF (T.fil id) at' n (z0.2 0)))) R tk PP ch' ∧ FR z0 w ∧ w.2 8 = z0.2 8 ∧ Uz z0 ≤ Uz w + ((at' + n - 1) / 256 - at' / 256 + 1) + 6 ∧ KC w + Uz w ≤ KC z0 + Uz z0 := by
  obtain ⟨g1, g2, g3⟩ := h0.tok.rng id (by omega)
  have hi := h0.tok.ids id g1 g2
  obtain ⟨hfo, hlk, hno⟩ := hi.fil hk
  have hp0 : z0.2 6 id ≠ 0 := fun q => by
    have := hi.pl.mp q
    omega
  obtain ⟨k0, -, -⟩ := hi.kd (by omega)
  have hbF : ∀ k, k < 412 → BPL (zV z0) (z0.2 6) id k = bpF (zV z0) (z0.2 6) id k := fun k hk' => BPL_f hp0 g2 (by rw [k0, hk]; decide) hk'
  unfold Fil_putBytes
  refine (begin_s hF h0 hk).bd ?_
  rintro _ ⟨z, rfl, hz, z13, z14, z15, zI, za, zu, -⟩
  obtain ⟨f, ef⟩ : ∃ f, f = T.fil id := ⟨_, rfl⟩
  rw [← ef] at hfo ⊢
  obtain ⟨bp, ebp⟩ : ∃ bp, bp = BPL (zV z0) (z0.2 6) id := ⟨_, rfl⟩
  rw [← ebp] at hz hbF
  have hfz : FOK (zV z) (z.2 13) bp f := by
    have hV : zV z = zV z0 := funext (zV_congr (za 4 (by decide) (by decide)))
    rw [hV]
    exact (hfo.keep (W' := zV z0) (bp' := bp) hbF (fun _ _ _ => rfl)).all (fun i hi' => zI i (by omega))
  have zlk : z.2 13 2 = T.lk id := by rw [zI 2 (by decide), hlk]
  have hKz : KC z = KC z0 := KC_congr (za 7 (by decide) (by decide))
  have z0a : z.2 0 = z0.2 0 := za 0 (by decide) (by decide)
  rw [show (3 : Int32) = nI 3 from rfl, rdA_z z 13 (by decide) (by decide), Option.bind_some, hfz.sml, show (1 : Int32) = nI 1 from rfl, show (96 : Int32) = nI 96 from rfl, nI_add]
  have hsmb := hfz.smb
  have hszb := hfz.szb
  -- the blocks are written, out of a state that has left the inode
  have big : ∀ z1 bp1, MID z1 z0 R tk PP ch0 id bp1 → (∀ j, bp1 j ≠ 0 → z1.2 5 (bp1 j) ≠ 0) → z1.2 13 1 = f.sz → z1.2 13 2 = T.lk id → z1.2 13 3 = 0 → z1.2 13 4 = thr bp1 → (∀ j, j < 24 → z1.2 13 (30 + j) = 0) → z1.1 13 = 0 → z1.1 14 = 0 → (∀ k i, k < 412 → i < 256 → byB (zV z1) (bp1 k) i = f.byt (256 * k + i)) → (∀ k, k < 412 → (if bp1 k = 0 then 0 else 1) = if f.sm = 1 ∧ k = 0 then 1 else f.has k) → (∀ k, k < 412 → bp1 k ≠ 0 → 256 * k < f.sz ∨ k = 0) → ¬ (f.sm = 1 ∧ at' + n ≤ 96) → Uz z0 ≤ Uz z1 + 1 → Uz z1 ≤ Uz z0 → KC z1 = KC z0 →
      Ev (Fil_putBytes_b75 FU 0 (nI at') (nI n) (up z1)) fun r => ∃ w ch', r = (nI (wrF f at' n (z0.2 0)).sz, up w) ∧ NW w (T.wFil (va_up T.fil id (wrF f at' n (z0.2 0)))) R tk PP ch' ∧ FR z0 w ∧ w.2 8 = z0.2 8 ∧ Uz z0 ≤ Uz w + ((at' + n - 1) / 256 - at' / 256 + 1) + 6 ∧ KC w + Uz w ≤ KC z0 + Uz z0 := by
    intro z1 bp1 m1 m2 m3 m4 m5 m6 m7 m8 m9 m10 m11 m12 m13 m14 m15 m16
    unfold Fil_putBytes_b75
    rw [nI_add, show (1 : Int32) = nI 1 from rfl, pk_sub (by omega), show (256 : Int32) = nI 256 from rfl, pk_div (by omega) (by decide) (by decide), pk_div (by omega) (by decide) (by decide)]
    refine writeLoop hF g1 g2 (bp1 := bp1) (z1 := z1) hn1 hn2 hat hse (by omega) (by omega) _ ?_ ((at' + n - 1) / 256 + 1 - at' / 256) (at' / 256) FU z1 ch0 bp1 (by omega) (by omega) (Nat.le_refl _) m1 (KW.rf z1) (fun _ _ _ _ => rfl) m6 (fun _ _ _ => rfl) (fun j a b => by omega) (fun j i hj hi' => by rw [if_neg (by omega)]) m2 (by rw [if_pos rfl]; exact ⟨m8, m9, rfl⟩)
    intro y ch bpy q1 q2 q3 q4 q5 q6 q7
    have y1 : y.2 13 1 = f.sz := by rw [q2 1 (by omega) (by decide) (by decide), m3]
    have y2 : y.2 13 2 = T.lk id := by rw [q2 2 (by omega) (by decide) (by decide), m4]
    have y3 : y.2 13 3 = 0 := by rw [q2 3 (by omega) (by decide) (by decide), m5]
    have hkc := q1.mc.kc
    have hsm0 : (wrF f at' n (z0.2 0)).sm = 0 := if_neg m13
    have hszE : (wrF f at' n (z0.2 0)).sz = if f.sz < at' + n then at' + n else f.sz := rfl
    have hszle : at' + n ≤ (wrF f at' n (z0.2 0)).sz ∧ f.sz ≤ (wrF f at' n (z0.2 0)).sz ∧ (wrF f at' n (z0.2 0)).sz ≤ 100000 := by
      rw [hszE]
      split <;> omega
    have hbn : ∀ k, k < 412 → (if bpy k = 0 then 0 else 1) = (wrF f at' n (z0.2 0)).has k := fun k hk' => by
      show _ = (if f.sm = 1 ∧ at' + n ≤ 96 then 0 else if (at' / 256 ≤ k ∧ k ≤ (at' + n - 1) / 256) ∨ (f.sm = 1 ∧ k = 0) then 1 else f.has k)
      rw [if_neg m13]
      by_cases c : at' / 256 ≤ k ∧ k ≤ (at' + n - 1) / 256
      · rw [if_neg (q5 k c.1 c.2), if_pos (Or.inl c)]
      · rcases q4 k hk' with e | e
        · rw [e, m11 k hk']
          by_cases d : f.sm = 1 ∧ k = 0
          · rw [if_pos d, if_pos (Or.inr d)]
          · rw [if_neg d, if_neg (fun w => w.elim c d)]
        · exact absurd e c
    refine (end139_s hF h0 q1 hk (fv := wrF f at' n (z0.2 0)) (by omega) hat ?_ y2 (by omega) hse (by omega)).mono ?_
    · rw [y1]
      refine ⟨?_, by omega, ?_, by omega, fun q => ?_, fun k hk' => (hbn k hk').symm, ?_, fun k hk' q => ?_, fun i hi' => ?_, fun i hi' => ?_, fun _ j hj => ?_, fun _ => by omega⟩
      · rw [va_up_self]; rfl
      · rw [va_up_ne _ _ (by decide), y3, hsm0]
      · omega
      · rw [va_up_ne _ _ (by decide), q3]; rfl
      · by_cases c : at' / 256 ≤ k ∧ k ≤ (at' + n - 1) / 256
        · omega
        · rcases q4 k hk' with e | e
          · rw [e] at q
            rcases m12 k hk' q with v | v
            · omega
            · omega
          · exact absurd e c
      · unfold byI
        rw [va_up_ne _ _ (by decide), y3, if_neg (by decide), q6 (i / 256) (i % 256) (by omega) (Nat.mod_lt _ (by decide)), show 256 * (i / 256) + i % 256 = i by omega]
        show _ = if at' ≤ i ∧ i < at' + n then z0.2 0 (i - at') % 256 else f.byt i
        by_cases c : at' ≤ i ∧ i < at' + n
        · rw [if_pos c, if_pos c]
        · rw [if_neg c, if_neg c, m10 _ _ (by omega) (Nat.mod_lt _ (by decide)), show 256 * (i / 256) + i % 256 = i by omega]
      · show (if at' ≤ i ∧ i < at' + n then z0.2 0 (i - at') % 256 else f.byt i) = 0
        rw [if_neg (by omega)]
        exact hfz.zer i (by omega)
      · rw [va_up_ne _ _ (by omega), q2 _ (by omega) (by omega) (by omega), m7 j hj]
    · rintro _ ⟨w, ch', rfl, n1, n2, n3, n4, n5⟩
      exact ⟨w, ch', rfl, n1, n2, n3, by omega, n5⟩
  have hbz : ∀ j, bp j ≠ 0 → z.2 5 (bp j) ≠ 0 := fun j q => by rw [(hz.mc.bw q).1]; decide
  by_cases c1 : f.sm = 1
  · rw [c1, if_pos rfl]
    obtain ⟨s1, s2⟩ := hfz.small c1
    by_cases c96 : 96 < at' + n
    · rw [if_pos (nI_lt c96 (by omega))]
      unfold Fil_putBytes_b61
      rw [show (3 : Int32) = nI 3 from rfl, rdA_z z 13 (by decide) (by decide), Option.bind_some, hfz.sml, c1, if_pos i11]
      refine (leaveSmall_s hF hz (s2 0 (by decide)) (by omega)).bd ?_
      rintro _ ⟨y, D, rfl, l1, l2, l3, l4, l5, l6, l7, l8, l9, l10, l11, l12, l13⟩
      have b0 : ∀ k, k < 412 → va_up bp 0 D k = if k = 0 then D else 0 := fun k hk' => by
        unfold va_up
        by_cases c : k = 0
        · rw [if_pos c, if_pos c]
        · rw [if_neg c, if_neg c, s2 k hk']
      refine big y (va_up bp 0 D) l1 (fun j q => by rw [(l1.mc.bw q).1]; decide) (by rw [l5, hfz.sz]) (by rw [l6, zlk]) l7 ?_ l9 (by rw [l12, z13]) (by rw [l13, z14]) (fun k i hk' hi' => ?_) (fun k hk' => ?_) (fun k hk' q => ?_) (fun q => by omega) (by omega) (by omega) (by omega)
      · rw [l8]
        have := thr_up (bp := bp) (k := 0) (v := D) (by decide)
        rw [s2 0 (by decide), if_pos rfl, if_neg (by omega : ¬ D = 0)] at this
        have e0 : thr bp = 0 := sm_zero (fun k hk' => by rw [s2 k hk', if_pos rfl])
        omega
      · rw [b0 k hk']
        by_cases c : k = 0
        · rw [if_pos c, c]
          unfold byB
          rw [if_neg (by omega), l4 i hi', ← hfz.byt _ (by omega)]
          unfold byI
          rw [hfz.sml, c1, if_pos rfl, show 256 * 0 + i = i by omega]
        · rw [if_neg c]
          unfold byB
          rw [if_pos rfl, ← hfz.byt _ (by omega)]
          unfold byI
          rw [hfz.sml, c1, if_pos rfl, if_neg (by omega)]
      · rw [b0 k hk']
        by_cases c : k = 0
        · rw [if_pos c, if_neg (by omega), if_pos ⟨c1, c⟩]
        · rw [if_neg c, if_pos rfl, if_neg (fun q => c q.2), hfz.has k hk', s2 k hk', if_pos rfl]
      · rw [b0 k hk'] at q
        by_cases c : k = 0
        · exact Or.inr c
        · rw [if_neg c] at q; exact absurd rfl q
    · rw [if_neg (nI_nlt (by omega) (by decide))]
      refine smallBytes_b FU at' n (by omega) _ z ?_ n 0 FU z (by omega) (by omega) (fun _ => rfl) (BYT.rf _ _ _ _ _)
      intro y hy
      have y13 : ∀ i, i < 30 ∨ 54 ≤ i → y.2 13 i = z.2 13 i := fun i hi' => hy.out i (by omega)
      have hY : MID y z0 R tk PP ch0 id bp := hz.mem hy.s (fun c c13 _ => hy.ar c c13) (fun i hi' => y13 i (by omega)) (hy.wd (fun j => hz.mc.wk.wd 13 (by decide) (by decide) j)) (fun i => by rw [hy.ar 16 (by decide)]; exact hz.mc.wk.wd 16 (by decide) (by decide) i)
      have hV : zV y = zV z := funext (zV_congr (hy.ar 4 (by decide)))
      have uy : Uz y = Uz z := Uz_frame (fun j _ _ => by rw [hy.s])
      have hKy : KC y = KC z := KC_congr (hy.ar 7 (by decide))
      have y1 : y.2 13 1 = f.sz := by rw [y13 1 (by omega), hfz.sz]
      have hcond : f.sm = 1 ∧ at' + n ≤ 96 := ⟨c1, by omega⟩
      have hsm1 : (wrF f at' n (z0.2 0)).sm = 1 := if_pos hcond
      have hszE : (wrF f at' n (z0.2 0)).sz = if f.sz < at' + n then at' + n else f.sz := rfl
      have hszle : at' + n ≤ (wrF f at' n (z0.2 0)).sz ∧ f.sz ≤ (wrF f at' n (z0.2 0)).sz ∧ (wrF f at' n (z0.2 0)).sz ≤ 96 := by
        rw [hszE]
        split <;> omega
      refine (end139_s hF h0 hY hk (fv := wrF f at' n (z0.2 0)) (by omega) hat ?_ (by rw [y13 2 (by omega), zlk]) (by omega) hse (by omega)).mono ?_
      · rw [y1]
        refine ⟨?_, by omega, ?_, by omega, fun _ => ⟨by omega, s2⟩, fun k hk' => ?_, ?_, fun k hk' q => absurd (s2 k hk') q, fun i hi' => ?_, fun i hi' => ?_, fun q => by omega, fun q => by omega⟩
        · rw [va_up_self]; rfl
        · rw [va_up_ne _ _ (by decide), y13 3 (by omega), hfz.sml, c1, hsm1]
        · rw [s2 k hk', if_pos rfl]
          exact if_pos hcond
        · rw [va_up_ne _ _ (by decide), y13 4 (by omega), hfz.there]
        · unfold byI
          rw [va_up_ne _ _ (by decide), y13 3 (by omega), hfz.sml, c1, if_pos rfl]
          show _ = if at' ≤ i ∧ i < at' + n then z0.2 0 (i - at') % 256 else f.byt i
          have eb : f.byt i = if i < 96 then gb (fun j => z.2 13 (30 + j)) i else 0 := by
            rw [← hfz.byt i hi']
            unfold byI
            rw [hfz.sml, c1, if_pos rfl]
          by_cases d : i < 96
          · rw [if_pos d]
            have e3 : gb (fun j => va_up (y.2 13) 1 (if f.sz < at' + n then at' + n else f.sz) (30 + j)) i = gb (fun j => y.2 13 (30 + j)) i := gb_congr (va_up_ne _ _ (by omega))
            rw [e3, hy.by' i, z0a]
            by_cases c : at' ≤ i ∧ i < at' + n
            · rw [if_pos c, if_pos c]
            · rw [if_neg c, if_neg c, eb, if_pos d]
          · rw [if_neg d, if_neg (by omega), eb, if_neg d]
        · show (if at' ≤ i ∧ i < at' + n then z0.2 0 (i - at') % 256 else f.byt i) = 0
          rw [if_neg (by omega)]
          exact hfz.zer i (by omega)
      · rintro _ ⟨w, ch', rfl, n1, n2, n3, n4, n5⟩
        exact ⟨w, ch', rfl, n1, n2, n3, by omega, n5⟩
  · have c0 : f.sm = 0 := by omega
    rw [c0, if_neg (by decide)]
    unfold Fil_putBytes_b61
    rw [show (3 : Int32) = nI 3 from rfl, rdA_z z 13 (by decide) (by decide), Option.bind_some, hfz.sml, c0, if_neg (by decide)]
    refine big z bp hz hbz hfz.sz zlk (by rw [hfz.sml, c0]) hfz.there (hfz.inl c0) z13 z14 (fun k i hk' hi' => ?_) (fun k hk' => ?_) (fun k hk' q => Or.inl (hfz.lim k hk' q)) (fun q => c1 q.1) (by omega) (by omega) hKz
    · rw [← hfz.byt _ (by omega)]
      unfold byI
      rw [hfz.sml, c0, if_neg (by decide), show (256 * k + i) / 256 = k by omega, show (256 * k + i) % 256 = i by omega]
    · rw [if_neg (show ¬ (f.sm = 1 ∧ k = 0) from fun q => c1 q.1), hfz.has k hk']
