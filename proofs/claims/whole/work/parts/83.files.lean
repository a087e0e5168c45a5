/-! a file is opened, its nodes are turned to -/
theorem zV_lt {z : NSt} (h : ∀ i, z.2 4 i < 2 ^ 32) (b i : Nat) : zV z b i < 2 ^ 32 := by
  show cutW _ _ < _
  unfold cutW
  split
  · exact h _
  · decide
theorem loadNode_z {FU : Nat} (hF : 140000 < FU) {z : NSt} (hP : PB z) {a n : Nat} (ha : lenF a = 64) (hn : n < 2 ^ 31) (hn' : n ≠ 0 → 1 ≤ n ∧ n < 2048) : Fil_loadNode FU a (nI n) (up z) = some (up (if n = 0 then zR z a (flN (z.2 a) 0 64 0) else ldZ z a (z.2 6 n))) := by
  unfold Fil_loadNode
  by_cases c : n = 0
  · rw [if_pos c, c, if_pos i00, show (0 : Int32) = nI 0 from rfl, fill0_z a 0 z (by omega), Option.bind_some, ha]
  · have := hP n
    rw [if_neg c, if_neg (ne0_I (by omega) c), Tab_placeOf_z FU z hn, Option.bind_some, plZ_in (hn' c).1 (hn' c).2, Dev_load_g FU z a (hP n) (by omega), Option.bind_some]
theorem load_a {z : NSt} {a n i : Nat} (hi : i < 64) : (if n = 0 then zR z a (flN (z.2 a) 0 64 0) else ldZ z a (z.2 6 n)).2 a i = if n = 0 then 0 else zV z (z.2 6 n) i := by
  by_cases c : n = 0
  · rw [if_pos c, if_pos c, zR2, if_pos rfl]
    exact if_pos ⟨by omega, hi⟩
  · rw [if_neg c, if_neg c, ld_a hi, zV_W hi]
theorem load_b {z : NSt} {a n c : Nat} (hc : c ≠ a) : (if n = 0 then zR z a (flN (z.2 a) 0 64 0) else ldZ z a (z.2 6 n)).2 c = z.2 c := by
  by_cases d : n = 0
  · rw [if_pos d, zR2, if_neg hc]
  · rw [if_neg d, ld_b hc]
theorem load_1 {z : NSt} {a n : Nat} : (if n = 0 then zR z a (flN (z.2 a) 0 64 0) else ldZ z a (z.2 6 n)).1 = z.1 := by
  by_cases d : n = 0
  · rw [if_pos d]; rfl
  · rw [if_neg d]; rfl
theorem WK.loadN {z : NSt} {BP : Nat → Nat → Nat} {T : TRE} {tk : TKS} {PP : Nat → Nat} {ch : List Nat} (h : WK z BP T tk PP ch) {a n : Nat} (ha : 13 ≤ a) : WK (if n = 0 then zR z a (flN (z.2 a) 0 64 0) else ldZ z a (z.2 6 n)) BP T tk PP ch := by
  by_cases d : n = 0
  · rw [if_pos d]
    refine h.setR ha (fun i => ?_)
    unfold flN
    split
    · decide
    · exact h.wd a (by omega) (by omega) i
  · rw [if_neg d]; exact h.load _ ha
theorem up_id {α : Type} (F : Nat → α) (i : Nat) : va_up F i (F i) = F := by
  funext j
  unfold va_up
  split
  · rename_i q; rw [q]
  · rfl
theorem begin_s {FU : Nat} (hF : 140000 < FU) {z0 : NSt} {T R : TRE} {tk : TKS} {PP : Nat → Nat} {ch : List Nat} (h : NW z0 T R tk PP ch) {f : Nat} (hk : T.kd f = 1) :
    Ev (Fil_begin FU (nI f) (up z0)) fun r => ∃ z, r = up z ∧ MID z z0 R tk PP ch f (BPL (zV z0) (z0.2 6) f) ∧ z.1 13 = 0 ∧ z.1 14 = 0 ∧ z.1 15 = 0 ∧ (∀ i, i < 64 → z.2 13 i = zV z0 (z0.2 6 f) i) ∧ (∀ c, c ≠ 13 → c ≠ 14 → z.2 c = z0.2 c) ∧ Uz z = Uz z0 ∧ (∀ j, j ≤ 7 → nuI z j = NB (zV z0) (z0.2 6) f j) ∧ ∀ k, k ≠ 12 → k ≠ 13 → k ≠ 14 → k ≠ 15 → z.1 k = z0.1 k := by
  obtain ⟨g1, g2, g3⟩ := h.tok.rng f (by omega)
  have hi := h.tok.ids f g1 g2
  have hp0 : z0.2 6 f ≠ 0 := fun q => by
    have := hi.pl.mp q
    omega
  obtain ⟨k0, k58, k61⟩ := hi.kd (by omega)
  obtain ⟨hfo, hlk, hno⟩ := hi.fil hk
  have hpb := h.wk.pb f
  unfold Fil_begin
  simp only [nx_eq]
  rw [show (0 : Int32) = nI 0 from rfl, up_I, up_I, up_I, up_I]
  obtain ⟨z1, e1⟩ : ∃ q, q = zI (zI (zI (zI z0 12 f) 13 0) 14 0) 15 0 := ⟨_, rfl⟩
  have z12 : z1.2 = z0.2 := by rw [e1]; rfl
  have z11 : ∀ k, k ≠ 12 → k ≠ 13 → k ≠ 14 → k ≠ 15 → z1.1 k = z0.1 k := fun k a b c d => by rw [e1, zI1, if_neg d, zI1, if_neg c, zI1, if_neg b, zI1, if_neg a]
  have w1 : WK z1 (BPL (zV z0) (z0.2 6)) R tk PP ch := by rw [e1]; exact (((h.wk.setI (by decide) (by decide)).setI (by decide) (by decide)).setI (by decide) (by decide)).setI (by decide) (by decide)
  rw [← e1, Tab_placeOf_z FU z1 (by omega), Option.bind_some, plZ_in g1 (by omega), z12, Dev_load_g FU z1 13 hpb (by decide), Option.bind_some]
  obtain ⟨z2, e2⟩ : ∃ q, q = ldZ z1 13 (z0.2 6 f) := ⟨_, rfl⟩
  have w2 : WK z2 (BPL (zV z0) (z0.2 6)) R tk PP ch := by rw [e2]; exact w1.load _ (by decide)
  have m2 : ∀ i, i < 64 → z2.2 13 i = zV z0 (z0.2 6 f) i := fun i hi => by
    rw [e2, ld_a hi, zV_W hi]
    unfold zW
    rw [z12]
  have a2 : ∀ c, c ≠ 13 → z2.2 c = z0.2 c := fun c hc => by rw [e2, ld_b hc, z12]
  have s2 : z2.1 = z1.1 := by rw [e2]; rfl
  rw [← e2, show (28 : Int32) = nI 28 from rfl, rdA_z z2 13 (by decide) (by decide), Option.bind_some, m2 28 (by decide)]
  obtain ⟨n, en⟩ : ∃ n, n = zV z0 (z0.2 6 f) 28 := ⟨_, rfl⟩
  have hn0 : NB (zV z0) (z0.2 6) f 0 = n := en.symm
  have hnr : n ≠ 0 → 1 ≤ n ∧ n < 2048 := fun q => by
    have := hno.rng 0 (by omega) (by rw [hn0]; exact q)
    rw [hn0] at this
    omega
  have hn31 : n < 2 ^ 31 := by
    by_cases q : n = 0
    · omega
    · have := hnr q; omega
  rw [← en, loadNode_z hF w2.pb rfl hn31 hnr, Option.bind_some]
  obtain ⟨z, ez⟩ : ∃ z, z = (if n = 0 then zR z2 14 (flN (z2.2 14) 0 64 0) else ldZ z2 14 (z2.2 6 n)) := ⟨_, rfl⟩
  have w : WK z (BPL (zV z0) (z0.2 6)) R tk PP ch := by rw [ez]; exact w2.loadN (by decide)
  have m14 : ∀ i, i < 64 → z.2 14 i = if n = 0 then 0 else zV z0 (z0.2 6 n) i := fun i hi => by
    rw [ez, load_a hi, a2 6 (by decide), zV_congr (a2 4 (by decide))]
  have za : ∀ c, c ≠ 14 → z.2 c = z2.2 c := fun c hc => by rw [ez, load_b hc]
  have z1' : z.1 = z1.1 := by rw [ez, load_1, s2]
  rw [← ez]
  have za' : ∀ c, c ≠ 13 → c ≠ 14 → z.2 c = z0.2 c := fun c a b => by rw [za c b, a2 c a]
  have m13 : ∀ i, i < 64 → z.2 13 i = zV z0 (z0.2 6 f) i := fun i hi => by rw [za 13 (by decide), m2 i hi]
  have hV : ∀ b, zV z b = zV z0 b := fun b => zV_congr (za' 4 (by decide) (by decide)) b
  have hP : z.2 6 = z0.2 6 := za' 6 (by decide) (by decide)
  have s12 : z.1 12 = f := by rw [z1', e1]; rfl
  have s13 : z.1 13 = 0 := by rw [z1', e1]; rfl
  have s14 : z.1 14 = 0 := by rw [z1', e1]; rfl
  have s15 : z.1 15 = 0 := by rw [z1', e1]; rfl
  have hu : Uz z = Uz z0 := Uz_frame (fun k _ _ => by rw [z1', z11 k (by omega) (by omega) (by omega) (by omega)])
  have hnu : ∀ j, j ≤ 7 → nuI z j = NB (zV z0) (z0.2 6) f j := fun j hj => by
    unfold nuI NB
    rw [m13 28 (by decide)]
    by_cases c0 : j = 0
    · rw [if_pos c0, if_pos c0]
    · rw [if_neg c0, if_neg c0]
      by_cases c3 : j < 3
      · rw [if_pos c3, if_pos c3, m13 _ (by omega)]
      · rw [if_neg c3, if_neg c3, m14 _ (by omega), ← en]
  have hbF : ∀ k, k < 412 → BPL (zV z0) (z0.2 6) f k = bpF (zV z0) (z0.2 6) f k := fun k hk' => BPL_f hp0 g2 (by rw [k0, hk]; decide) hk'
  have hbp : ∀ j i, 1 ≤ j → j ≤ 7 → i < 56 → BPL (zV z0) (z0.2 6) f (20 + 56 * (j - 1) + i) = if NB (zV z0) (z0.2 6) f j = 0 then 0 else zV z0 (z0.2 6 (NB (zV z0) (z0.2 6) f j)) i := fun j i j1 j7 hi => by
    rw [hbF _ (by omega)]
    unfold bpF
    rw [if_neg (by omega), show 1 + (20 + 56 * (j - 1) + i - 20) / 56 = j by omega, show (20 + 56 * (j - 1) + i - 20) % 56 = i by omega]
  have hn14 : NB (zV z0) (z0.2 6) f 0 ≠ 0 → (∀ i, 5 ≤ i → i < 56 → z.2 14 i = 0) ∧ ∃ i, i < 5 ∧ z.2 14 i ≠ 0 := fun q => by
    have := hno.ixz q
    rw [hn0] at this q
    refine ⟨fun i i1 i2 => ?_, ?_⟩
    · rw [m14 i (by omega), if_neg q]; exact this.1 i i1 i2
    · obtain ⟨i, i1, i2⟩ := this.2
      exact ⟨i, i1, by rw [m14 i (by omega), if_neg q]; exact i2⟩
  refine Ev.ret ⟨z, rfl, ⟨⟨?_, KW.of4 (za' 4 (by decide) (by decide)) (za' 5 (by decide) (by decide)), fun m q => by rw [(h.wk.p1 q).1]; decide, s12, fun m _ => by rw [hP], fun m _ _ _ => by rw [hP], fun m m1 m2 => ?_, fun i i1 i2 => ?_, fun j hj q => ?_, fun j j' hj hj' q e => ?_, fun k hk' => ?_, fun k hk' => ?_, fun j hj _ => ?_, ⟨?_, ?_, ?_⟩, ?_, ⟨⟨fun k a1 a2 a3 a4 a5 a6 a7 a8 => ?_, fun c hc => za' c (by omega) (by omega)⟩, za' 8 (by decide) (by decide)⟩⟩, by omega, by omega, by omega, fun _ => s14, fun q => by omega⟩, s13, s14, s15, m13, za', hu, hnu, fun k a b c d => by rw [z1', z11 k a b c d]⟩
  · rw [up_id]; exact w
  · rw [hP] at m2 ⊢
    rw [hV]
    obtain ⟨id', j, l1, l2, l3⟩ := h.led m m1 m2
    obtain ⟨v1, v2, v3⟩ := h.tok.rng id' (by omega)
    have hr := ((h.tok.ids id' v1 v2).fil l1).2.2.rng j l2 (by omega)
    rw [l3] at hr
    by_cases c : id' = f
    · left
      rw [hr.2.2.2.1]
      exact ⟨c, j, l2, by rw [hnu j l2, ← c]; exact l3⟩
    · right
      rw [hr.2.2.2.1]
      exact ⟨c, rfl⟩
  · by_cases q : NB (zV z0) (z0.2 6) f 0 = 0
    · rw [hn0] at q
      rw [m14 i (by omega), if_pos q]
    · exact (hn14 q).1 i i1 i2
  · rw [hnu j hj] at q ⊢
    rw [hP, hV]
    exact hno.rng j hj q
  · rw [hnu j hj] at q e
    rw [hnu j' hj'] at e
    exact hno.inj j j' hj hj' q e
  · rw [hbF k (by omega), m13 _ (by omega)]
    unfold bpF
    rw [if_pos hk']
  · unfold BPL
    rw [if_neg (by omega), if_neg (by rw [k0, hk]; decide), if_neg (by omega)]
  · rw [hnu j hj, hP]
    unfold cnt'
    by_cases c0 : j = 0
    · rw [c0, hn0]
      simp only [if_true]
      refine ⟨fun i hi' => ?_, fun q => ?_⟩
      · rw [m14 i (by omega), hV]
      · obtain ⟨i, i1, i2⟩ := (hn14 (by rw [hn0]; exact q)).2
        exact ⟨i, by omega, i2⟩
    · simp only [if_neg c0]
      refine ⟨fun i hi' => ?_, fun q => ?_⟩
      · rw [hbp j i (by omega) hj hi', hV]
      · obtain ⟨i, i1, i2⟩ := hno.ne j (by omega) hj q
        exact ⟨i, i1, by rw [hbp j i (by omega) hj i1, if_neg q]; exact i2⟩
  · rw [m13 0 (by decide), k0, hk]
  · rw [m13 58 (by decide), k58]
  · rw [m13 61 (by decide), k61]
  · rw [hu, KC_congr (za' 7 (by decide) (by decide))]
    exact Nat.le_refl _
  · rw [z1', z11 k a5 a6 a7 a8]
/-- the node that leads to block k -/
def ndK (k : Nat) : Nat := if k < 20 then 0 else 1 + (k - 20) / 56
theorem ndK_lo {k : Nat} (h : k < 20) : ndK k = 0 := if_pos h
theorem ndK_hi {k : Nat} (h : 20 ≤ k) : ndK k = 1 + (k - 20) / 56 := if_neg (by omega)
theorem nd_new {p k : Nat} (h1 : p ≤ k) (h2 : k ≤ p + 1) (c0 : ndK k ≠ 0) (c1 : ndK k ≠ ndK p) : 20 + 56 * (ndK k - 1) = k ∧ (1 ≤ ndK p → 20 + 56 * ndK p = k) := by
  by_cases a : k < 20
  · exact absurd (ndK_lo a) c0
  · rw [ndK_hi (by omega : 20 ≤ k)] at c1 ⊢
    by_cases b : p < 20
    · rw [ndK_lo b] at c1 ⊢
      omega
    · rw [ndK_hi (by omega : 20 ≤ p)] at c1 ⊢
      omega
theorem turnTo_s {FU : Nat} (hF : 140000 < FU) {z z0 : NSt} {R : TRE} {tk : TKS} {PP : Nat → Nat} {ch : List Nat} {id : Nat} {bp : Nat → Nat} (h : MID z z0 R tk PP ch id bp) (i1 : 1 ≤ id) (i2 : id ≤ 250) (hU : 33 ≤ Uz z) (hse : z.1 11 < 2 ^ 32) (hK : KC z < 1797) {k : Nat} (hk : k < 412) :
    Ev (Fil_turnTo FU (nI k) (up z)) fun r => ∃ y ch', r = up y ∧ MID y z0 R tk PP ch' id bp ∧ (20 ≤ k → y.1 13 = ndK k) ∧ (ndK k = 0 ∨ ndK k = z.1 13 → y = z) ∧ (ndK k ≠ 0 → ndK k ≠ z.1 13 → y.1 14 = 0) ∧ KW z y ∧ (∀ i, i ≠ 26 → i ≠ 27 → i < 62 → y.2 13 i = z.2 13 i) ∧ y.2 16 = z.2 16 ∧ Uz z ≤ Uz y + z.1 14 ∧ Uz y ≤ Uz z ∧ ((∀ i, i < 56 → z.2 15 i = 0) → Uz y = Uz z) ∧ KC y + Uz y ≤ KC z + Uz z ∧ y.1 11 = z.1 11 := by
  have key : ∀ nd, nd = ndK k → nd ≤ 7 → Ev (Fil_turnTo_b19 FU (nI nd) (up z)) fun r => ∃ y ch', r = up y ∧ MID y z0 R tk PP ch' id bp ∧ (20 ≤ k → y.1 13 = ndK k) ∧ (ndK k = 0 ∨ ndK k = z.1 13 → y = z) ∧ (ndK k ≠ 0 → ndK k ≠ z.1 13 → y.1 14 = 0) ∧ KW z y ∧ (∀ i, i ≠ 26 → i ≠ 27 → i < 62 → y.2 13 i = z.2 13 i) ∧ y.2 16 = z.2 16 ∧ Uz z ≤ Uz y + z.1 14 ∧ Uz y ≤ Uz z ∧ ((∀ i, i < 56 → z.2 15 i = 0) → Uz y = Uz z) ∧ KC y + Uz y ≤ KC z + Uz z ∧ y.1 11 = z.1 11 := by
    intro nd end' hnd
    have hop := h.op
    unfold Fil_turnTo_b19
    by_cases c0 : nd = 0
    · rw [c0, if_pos i00]
      refine Ev.ret ⟨z, ch, rfl, h, fun q => ?_, fun _ => rfl, fun q => by omega, KW.rf z, fun _ _ _ _ => rfl, rfl, by omega, Nat.le_refl _, fun _ => rfl, Nat.le_refl _, rfl⟩
      rw [c0] at end'
      unfold ndK at end'
      rw [if_neg (by omega)] at end'
      omega
    · rw [if_neg (ne0_I (by omega) c0), up1]
      by_cases c1 : nd = z.1 13
      · rw [if_pos (by rw [c1])]
        exact Ev.ret ⟨z, ch, rfl, h, fun _ => by rw [← c1, end'], fun _ => rfl, fun _ q => by omega, KW.rf z, fun _ _ _ _ => rfl, rfl, by omega, Nat.le_refl _, fun _ => rfl, Nat.le_refl _, rfl⟩
      · rw [if_neg (fun q => c1 ((nI_eq (by omega) (by omega)).mp q))]
        refine (closeNode_s hF h i1 i2 hU hse hK).bd ?_
        rintro _ ⟨x, ch', rfl, hx, x14, x13, kwx, xI, x16, xu1, xu2, xu3, xkc, xu0⟩
        have hfx := hx.mc.fr.1
        have hfz := h.mc.fr.1
        rw [nx_eq, up_I]
        obtain ⟨x', ex⟩ : ∃ x', x' = zI x 13 nd := ⟨_, rfl⟩
        have e2 : x'.2 = x.2 := by rw [ex]; rfl
        have e1 : ∀ k, k ≠ 13 → x'.1 k = x.1 k := fun k q => by rw [ex, zI1, if_neg q]
        have enu : ∀ j, nuI x' j = nuI x j := fun j => by unfold nuI; rw [e2]
        rw [← ex, numberOf_z FU x' (by omega) hnd, Option.bind_some]
        obtain ⟨n, en⟩ : ∃ n, n = nuI x' nd := ⟨_, rfl⟩
        have hnr : n ≠ 0 → 1 ≤ n ∧ n < 2048 := fun q => by
          rw [en, enu] at q ⊢
          have := hx.mc.rg nd hnd q
          omega
        have hn31 : n < 2 ^ 31 := by
          by_cases q : n = 0
          · omega
          · have := hnr q; omega
        have wx' : WK x' (va_up (BPL (zV z0) (z0.2 6)) id bp) R tk PP ch' := by rw [ex]; exact hx.mc.wk.setI (by decide) (by decide)
        rw [← en, loadNode_z hF wx'.pb rfl hn31 hnr, Option.bind_some]
        obtain ⟨y, ey⟩ : ∃ y, y = (if n = 0 then zR x' 15 (flN (x'.2 15) 0 64 0) else ldZ x' 15 (x'.2 6 n)) := ⟨_, rfl⟩
        have wy : WK y (va_up (BPL (zV z0) (z0.2 6)) id bp) R tk PP ch' := by rw [ey]; exact wx'.loadN (by decide)
        have m15 : ∀ i, i < 64 → y.2 15 i = if n = 0 then 0 else zV x (x.2 6 n) i := fun i hi => by
          have hVx' : ∀ b, zV x' b = zV x b := fun b => zV_congr (by rw [e2]) b
          rw [ey, load_a hi, e2, hVx']
        have ya : ∀ c, c ≠ 15 → y.2 c = x.2 c := fun c hc => by rw [ey, load_b hc, e2]
        have y1 : ∀ k, k ≠ 13 → y.1 k = x.1 k := fun k q => by rw [ey, load_1, e1 k q]
        have y13 : y.1 13 = nd := by rw [ey, load_1, ex, zI1, if_pos rfl]
        rw [← ey]
        have hVy : ∀ b, zV y b = zV x b := fun b => zV_congr (ya 4 (by decide)) b
        have y6 : y.2 6 = x.2 6 := ya 6 (by decide)
        have ynu : ∀ j, nuI y j = nuI x j := fun j => by unfold nuI; rw [ya 13 (by decide), ya 14 (by decide)]
        have kxy : KW x y := KW.of4 (ya 4 (by decide)) (ya 5 (by decide))
        have uy : Uz y = Uz x := Uz_frame (fun k _ _ => y1 k (by omega))
        have y14 : y.1 14 = 0 := by rw [y1 14 (by decide), x14]
        have ycnt : ∀ j i, cnt' y bp j i = cnt' x bp j i := fun j i => by unfold cnt'; rw [ya 14 (by decide)]
        have hmc := hx.mc
        have hclx : ∀ j, j ≤ 7 → ¬ (j = 0 ∧ x.1 15 = 1) → (∀ i, i < 56 → cnt' x bp j i = if nuI x j = 0 then 0 else zV x (x.2 6 (nuI x j)) i) ∧ (nuI x j ≠ 0 → ∃ i, i < 56 ∧ cnt' x bp j i ≠ 0) := fun j hj q => hmc.cl j hj (by
          rintro (⟨-, -, v⟩ | v)
          · omega
          · exact q v)
        have hkcy : KC y = KC x := KC_congr (ya 7 (by decide))
        have hy : MIC y z0 R tk PP ch' id bp (fun j => (j = y.1 13 ∧ 1 ≤ j ∧ y.1 14 = 1) ∨ (j = 0 ∧ y.1 15 = 1)) := by
          refine ⟨wy, hmc.kw.trans kxy, hmc.w0, by rw [y1 12 (by decide)]; exact hmc.hid, fun m q => by rw [y6]; exact hmc.pid m q, fun m a b c => by rw [y6]; exact hmc.pot m a b c, fun m a b => ?_, fun i a b => by rw [ya 14 (by decide)]; exact hmc.xz i a b, fun j hj q => ?_, fun j j' hj hj' q e => ?_, fun k q => by rw [ya 13 (by decide)]; exact hmc.b0 k q, hmc.b9, fun j hj q => ?_, by rw [ya 13 (by decide)]; exact hmc.i0, by rw [hkcy, uy]; exact hmc.kc, ⟨hmc.fr.1.trans ⟨fun k _ _ _ _ _ q _ _ => y1 k q, fun c hc => ya c (by omega)⟩, by rw [ya 8 (by decide), hmc.fr.2]⟩⟩
          · rw [y6] at b ⊢
            rw [hVy]
            rcases hmc.pnw m a b with ⟨v1, j, v2, v3⟩ | v
            · exact Or.inl ⟨v1, j, v2, by rw [ynu]; exact v3⟩
            · exact Or.inr v
          · rw [ynu] at q ⊢
            rw [y6, hVy]
            exact hmc.rg j hj q
          · rw [ynu] at q e
            rw [ynu] at e
            exact hmc.nj j j' hj hj' q e
          · obtain ⟨v1, v2⟩ := hclx j hj (fun v => q (Or.inr ⟨v.1, by rw [y1 15 (by decide)]; exact v.2⟩))
            rw [ynu, y6]
            refine ⟨fun i hi => by rw [ycnt, v1 i hi, hVy], fun w => ?_⟩
            obtain ⟨i, w1, w2⟩ := v2 w
            exact ⟨i, w1, by rw [ycnt]; exact w2⟩
        refine Ev.ret ⟨y, ch', rfl, ⟨hy, by omega, by omega, by rw [y1 15 (by decide)]; exact hx.ic, fun q => by omega, fun _ i hi => ?_⟩, fun _ => by rw [y13, end'], fun q => by omega, fun _ _ => y14, kwx.trans kxy, fun i a b c => by rw [ya 13 (by decide)]; exact xI i a b c, by rw [ya 16 (by decide)]; exact x16, ?_, by omega, fun q => by rw [uy]; exact xu3 q, by rw [hkcy, uy]; exact xkc, ?_⟩
        · rw [y13, m15 i (by omega), en, enu]
          have := (hclx nd hnd (fun v => c0 v.1)).1 i hi
          unfold cnt' at this
          rw [if_neg c0] at this
          exact this
        · have hdc := h.dc
          by_cases q : z.1 14 = 0
          · have := xu0 q
            omega
          · omega
        · rw [y1 11 (by decide), hfx.1 11 (by decide) (by decide) (by decide) (by decide) (by decide) (by decide) (by decide) (by decide), hfz.1 11 (by decide) (by decide) (by decide) (by decide) (by decide) (by decide) (by decide) (by decide)]
  unfold Fil_turnTo
  by_cases c : 20 ≤ k
  · rw [show (20 : Int32) = nI 20 from rfl, if_pos (nI_le c (by omega)), pk_sub c, show (56 : Int32) = nI 56 from rfl, pk_div (by omega) (by decide) (by decide), show (1 : Int32) = nI 1 from rfl, nI_add]
    exact key _ (by unfold ndK; rw [if_neg (by omega)]) (by omega)
  · rw [show (20 : Int32) = nI 20 from rfl, if_neg (nI_ge (by omega) (by decide))]
    exact key 0 (by unfold ndK; rw [if_pos (by omega)]) (by omega)
