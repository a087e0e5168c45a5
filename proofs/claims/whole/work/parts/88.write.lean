/-! bytes are written -/
theorem lohi {k at' n : Nat} (h1 : at' / 256 ≤ k) (h2 : k ≤ (at' + n - 1) / 256) (h3 : 1 ≤ n) {lo hi : Nat} (ehi : hi = (if k * 256 + 256 < at' + n then k * 256 + 256 else at' + n)) (elo : lo = (if at' < k * 256 then k * 256 else at')) : lo < hi ∧ hi ≤ k * 256 + 256 ∧ hi ≤ at' + n ∧ k * 256 ≤ lo ∧ at' ≤ lo ∧ (hi = k * 256 + 256 ∨ hi = at' + n) ∧ (lo = k * 256 ∨ lo = at') := by
  by_cases c : k * 256 + 256 < at' + n
  · rw [if_pos c] at ehi
    by_cases d : at' < k * 256
    · rw [if_pos d] at elo; omega
    · rw [if_neg d] at elo; omega
  · rw [if_neg c] at ehi
    by_cases d : at' < k * 256
    · rw [if_pos d] at elo; omega
    · rw [if_neg d] at elo; omega
theorem fillBlock_s {FU : Nat} (hF : 140000 < FU) {y z0 : NSt} {R : TRE} {tk : TKS} {PP : Nat → Nat} {ch : List Nat} {id : Nat} {bp : Nat → Nat} (h : MID y z0 R tk PP ch id bp) {k at' n : Nat} (hk : k < 412) (hop : 20 ≤ k → y.1 13 = ndK k) (hn1 : 1 ≤ n) (hn2 : n ≤ 2000) (hat : at' + n ≤ 100000) (hk1 : at' / 256 ≤ k) (hk2 : k ≤ (at' + n - 1) / 256) (h4 : y.2 13 4 < 1000) :
    Ev (Fil_fillBlock FU 0 (nI k) (nI at') (nI n) (up y)) fun r => ∃ x, r = up x ∧ WK x (va_up (BPL (zV z0) (z0.2 6)) id (va_up bp k 0)) R tk PP ch ∧ KW y x ∧ (∀ c, c ≠ 9 → c ≠ 10 → c ≠ 11 → c ≠ 13 → c ≠ 16 → x.2 c = y.2 c) ∧ x.1 = y.1 ∧ (∀ i, x.2 13 i = if i = 4 then y.2 13 4 + (if bp k = 0 then 1 else 0) else y.2 13 i) ∧ (∀ i, i < 256 → gb (cutW (x.2 16)) i = if at' ≤ 256 * k + i ∧ 256 * k + i < at' + n then y.2 0 (256 * k + i - at') % 256 else byB (zV y) (bp k) i) := by
  have hmc := h.mc
  have hbb : bp k < 2117 := by
    by_cases c : bp k = 0
    · omega
    · exact (hmc.bw c).2.2.1
  unfold Fil_fillBlock
  rw [placeOf_z FU h hk hop, Option.bind_some, loadBlock_z hF hbb, Option.bind_some]
  show Ev ((Log_drop FU (nI (bp k)) (up (lbZ y (bp k)))).bind _) _
  have w1 := hmc.wk.lb (bp k)
  rw [Log_drop_g FU w1.lg (by omega), Option.bind_some]
  have w2 := w1.drop' k
  obtain ⟨x2, e2⟩ : ∃ x2, x2 = drpZ (bp k) (lbZ y (bp k)) := ⟨_, rfl⟩
  rw [← e2] at w2 ⊢
  have a2 : ∀ c, c ≠ 9 → c ≠ 10 → c ≠ 11 → c ≠ 16 → x2.2 c = y.2 c := fun c c9 c10 c11 c16 => by rw [e2, drp_2 _ _ c9 c10 c11, lb_b c16]
  have m2 : x2.2 16 = (lbZ y (bp k)).2 16 := by rw [e2, drp_2 _ _ (by decide) (by decide) (by decide)]
  have s2 : x2.1 = y.1 := by rw [e2, drp_1, lb_1]
  have key : ∀ x3 : NSt, WK x3 (va_up (BPL (zV z0) (z0.2 6)) id (va_up bp k 0)) R tk PP ch → (∀ c, c ≠ 13 → x3.2 c = x2.2 c) → x3.1 = x2.1 → (∀ i, x3.2 13 i = if i = 4 then y.2 13 4 + (if bp k = 0 then 1 else 0) else y.2 13 i) → Ev (Fil_fillBlock_b37 FU 0 (nI k) (nI at') (nI n) (up x3)) fun r => ∃ x, r = up x ∧ WK x (va_up (BPL (zV z0) (z0.2 6)) id (va_up bp k 0)) R tk PP ch ∧ KW y x ∧ (∀ c, c ≠ 9 → c ≠ 10 → c ≠ 11 → c ≠ 13 → c ≠ 16 → x.2 c = y.2 c) ∧ x.1 = y.1 ∧ (∀ i, x.2 13 i = if i = 4 then y.2 13 4 + (if bp k = 0 then 1 else 0) else y.2 13 i) ∧ (∀ i, i < 256 → gb (cutW (x.2 16)) i = if at' ≤ 256 * k + i ∧ 256 * k + i < at' + n then y.2 0 (256 * k + i - at') % 256 else byB (zV y) (bp k) i) := by
    intro x3 w3 a3 s3 m3
    unfold Fil_fillBlock_b37
    rw [show (256 : Int32) = nI 256 from rfl, pk_mul, nI_add, nI_add]
    simp (disch := omega) only [nI_ltI]
    have ehi : (if k * 256 + 256 < at' + n then nI (k * 256 + 256) else nI (at' + n)) = nI (if k * 256 + 256 < at' + n then k * 256 + 256 else at' + n) := by split <;> rfl
    have elo : (if at' < k * 256 then nI (k * 256) else nI at') = nI (if at' < k * 256 then k * 256 else at') := by split <;> rfl
    rw [ehi, elo]
    obtain ⟨hi, ehi⟩ : ∃ hi, hi = (if k * 256 + 256 < at' + n then k * 256 + 256 else at' + n) := ⟨_, rfl⟩
    obtain ⟨lo, elo⟩ : ∃ lo, lo = (if at' < k * 256 then k * 256 else at') := ⟨_, rfl⟩
    rw [← ehi, ← elo]
    obtain ⟨h1, h2a, h2b, h2c, h2d, h3, h5⟩ := lohi hk1 hk2 hn1 ehi elo
    clear ehi elo
    refine (fillBlock_b FU at' (k * 256) hi (by omega) (by omega) (by omega) (fun i hi' => by omega) (hi - lo) lo FU (lo - k * 256) x3 x3 (by omega) (by omega) (by omega) (by omega) (Nat.le_refl _) (fun _ => rfl) (BYT.rf _ _ _ _ _)).mono ?_
    rintro _ ⟨x, rfl, hb⟩
    have xa : ∀ c, c ≠ 16 → x.2 c = x3.2 c := hb.ar
    refine ⟨x, rfl, BYT.wk w3 (by decide) hb, KW.of4 ?_ ?_, fun c c9 c10 c11 c13 c16 => ?_, by rw [hb.s, s3, s2], fun i => by rw [xa 13 (by decide)]; exact m3 i, fun i hi' => ?_⟩
    · rw [xa 4 (by decide), a3 4 (by decide), a2 4 (by decide) (by decide) (by decide) (by decide)]
    · rw [xa 5 (by decide), a3 5 (by decide), a2 5 (by decide) (by decide) (by decide) (by decide)]
    · rw [xa c c16, a3 c c13, a2 c c9 c10 c11 c16]
    · rw [cut_gb hi']
      have e : gb (x.2 16) i = gb (fun j => x.2 16 (0 + j)) i := gb_congr (by rw [Nat.zero_add])
      rw [e, hb.by' i]
      by_cases c : at' ≤ 256 * k + i ∧ 256 * k + i < at' + n
      · rw [if_pos c, if_pos (by omega), a3 0 (by decide), a2 0 (by decide) (by decide) (by decide) (by decide), show k * 256 + i - at' = 256 * k + i - at' by omega]
      · rw [if_neg c, if_neg (by omega), ← lb_gb hi']
        exact gb_congr (by rw [a3 16 (by decide), m2])
  by_cases c : bp k = 0
  · rw [if_pos (by rw [c]; rfl), show (4 : Int32) = nI 4 from rfl, rdA_z x2 13 (by decide) (by decide), Option.bind_some, a2 13 (by decide) (by decide) (by decide) (by decide), show (1 : Int32) = nI 1 from rfl, nI_add, wrA_z x2 13 (by decide) (by decide), Option.bind_some]
    refine key _ (w2.setA (by decide) (by omega)) (fun d hd => by rw [zA2, if_neg hd]) rfl (fun i => ?_)
    rw [zA2, if_pos rfl, if_pos c]
    unfold va_up
    by_cases e : i = 4
    · rw [if_pos e, if_pos e]
    · rw [if_neg e, if_neg e, a2 13 (by decide) (by decide) (by decide) (by decide)]
  · rw [if_neg (ne0_I (by omega) c)]
    refine key x2 w2 (fun _ _ => rfl) rfl (fun i => ?_)
    rw [if_neg c, a2 13 (by decide) (by decide) (by decide) (by decide)]
    by_cases e : i = 4
    · rw [if_pos e, e]
      exact (Nat.add_zero _).symm
    · rw [if_neg e]
/-- the loop over the blocks that are written -/
theorem writeLoop {FU : Nat} (hF : 140000 < FU) {z0 z1 : NSt} {R : TRE} {tk : TKS} {PP : Nat → Nat} {id : Nat} (i1 : 1 ≤ id) (i2 : id ≤ 250) {at' n : Nat} {bp1 : Nat → Nat} (hn1 : 1 ≤ n) (hn2 : n ≤ 2000) (hat : at' + n ≤ 100000) (hse : z0.1 11 < 2 ^ 32) (hU1 : 60 ≤ Uz z1) (hK : KC z0 + Uz z0 ≤ 1760 + Uz z1) (Q : Int32 × St → Prop)
    (hq : ∀ z ch bp, MID z z0 R tk PP ch id bp → (∀ i, i < 6 ∨ 28 ≤ i → i ≠ 4 → i < 62 → z.2 13 i = z1.2 13 i) → z.2 13 4 = thr bp → (∀ k, k < 412 → bp k = bp1 k ∨ (at' / 256 ≤ k ∧ k ≤ (at' + n - 1) / 256)) → (∀ k, at' / 256 ≤ k → k ≤ (at' + n - 1) / 256 → bp k ≠ 0) → (∀ k i, k < 412 → i < 256 → byB (zV z) (bp k) i = if at' ≤ 256 * k + i ∧ 256 * k + i < at' + n then z0.2 0 (256 * k + i - at') % 256 else byB (zV z1) (bp1 k) i) → Uz z1 ≤ Uz z + ((at' + n - 1) / 256 - at' / 256 + 1) + 1 → Ev (Fil_putBytes_b139 FU 0 (nI at') (nI n) (up z)) Q) :
    ∀ (m k f : Nat) (z : NSt) (ch : List Nat) (bp : Nat → Nat), k + m = (at' + n - 1) / 256 + 1 → m < f → at' / 256 ≤ k → MID z z0 R tk PP ch id bp → KW z1 z → (∀ i, i < 6 ∨ 28 ≤ i → i ≠ 4 → i < 62 → z.2 13 i = z1.2 13 i) → z.2 13 4 = thr bp → (∀ j, j < 412 → j < at' / 256 ∨ k ≤ j → bp j = bp1 j) → (∀ j, at' / 256 ≤ j → j < k → bp j ≠ 0) → (∀ j i, j < 412 → i < 256 → byB (zV z) (bp j) i = if at' ≤ 256 * j + i ∧ 256 * j + i < at' + n ∧ j < k then z0.2 0 (256 * j + i - at') % 256 else byB (zV z1) (bp1 j) i) → (∀ j, bp1 j ≠ 0 → z1.2 5 (bp1 j) ≠ 0) →
      (if k = at' / 256 then z.1 13 = 0 ∧ z.1 14 = 0 ∧ Uz z = Uz z1 else z.1 13 = ndK (k - 1) ∧ Uz z1 ≤ Uz z + (k - at' / 256) + (ndK (k - 1) - ndK (at' / 256))) → Ev (Fil_putBytes_b93 FU 0 f (nI at') (nI n) (nI ((at' + n - 1) / 256)) (nI k) (up z)) Q := by
  intro m
  induction m with
  | zero =>
    intro k f z ch bp e1 e2 e3 hM hkw hI hth hb1 hb2 hby hw1 hac
    obtain ⟨f, rfl⟩ : ∃ q9, f = q9 + 1 := ⟨f - 1, by omega⟩
    unfold Fil_putBytes_b93
    rw [if_pos (nI_lt (by omega) (by omega))]
    refine hq z ch bp hM hI hth (fun j hj => ?_) (fun j g1 g2 => hb2 j g1 (by omega)) (fun j i hj hi => ?_) ?_
    · by_cases c : j < at' / 256 ∨ k ≤ j
      · exact Or.inl (hb1 j hj c)
      · right
        omega
    · rw [hby j i hj hi]
      by_cases c : at' ≤ 256 * j + i ∧ 256 * j + i < at' + n
      · rw [if_pos c, if_pos ⟨c.1, c.2, by omega⟩]
      · rw [if_neg c, if_neg (fun q => c ⟨q.1, q.2.1⟩)]
    · rw [if_neg (by omega)] at hac
      have : ndK (k - 1) ≤ ndK (at' / 256) + 1 := by
        unfold ndK
        split <;> split <;> omega
      omega
  | succ m ih =>
    intro k f z ch bp e1 e2 e3 hM hkw hI hth hb1 hb2 hby hw1 hac
    obtain ⟨f, rfl⟩ : ∃ q9, f = q9 + 1 := ⟨f - 1, by omega⟩
    have hk : k < 412 := by omega
    have hnd : ndK (k - 1) ≤ ndK k ∧ ndK k ≤ ndK (k - 1) + 1 ∧ ndK (k - 1) ≤ ndK (at' / 256) + 1 := by
      unfold ndK
      refine ⟨?_, ?_, ?_⟩ <;> split <;> split <;> omega
    have hnd2 : at' / 256 ≤ k - 1 → ndK (at' / 256) ≤ ndK (k - 1) := fun q => by
      unfold ndK
      split <;> split <;> omega
    have hu1 : Uz z1 ≤ Uz z + 10 := by
      by_cases c : k = at' / 256
      · rw [if_pos c] at hac; omega
      · rw [if_neg c] at hac; omega
    have hz11 : z.1 11 = z0.1 11 := hM.mc.fr.1.1 11 (by decide) (by decide) (by decide) (by decide) (by decide) (by decide) (by decide) (by decide)
    have hkc := hM.mc.kc
    unfold Fil_putBytes_b93
    rw [if_neg (nI_nlt (by omega) (by omega))]
    refine (turnTo_s hF hM i1 i2 (by omega) (by omega) (by omega) hk).bd ?_
    rintro _ ⟨y, ch', rfl, hy, y13, ysm, y14, kwy, yI, y16, yu1, yu2, yu3, ykc, y11⟩
    have hbw := fun j (q : bp j ≠ 0) => (hM.mc.bw q).1
    have hdc0 := hM.dc
    have yth : y.2 13 4 = thr bp := by rw [yI 4 (by decide) (by decide) (by decide), hth]
    have hthl := thr_le bp
    refine (fillBlock_s hF hy hk y13 hn1 hn2 hat e3 (by omega) (by omega)).bd ?_
    rintro _ ⟨x, rfl, wx, kwx, xa, x1, x13, x16⟩
    obtain ⟨D, w, er, hw, d1, d2, d3, kww, wI, wu, wkc, dy, ws, ws14⟩ := repl_s hF hy hk y13 wx kwx (xa 6 (by decide) (by decide) (by decide) (by decide) (by decide)) (fun i hi => by rw [x13, if_neg (by omega)]) (xa 14 (by decide) (by decide) (by decide) (by decide) (by decide)) (xa 15 (by decide) (by decide) (by decide) (by decide) (by decide)) x1 (xa 7 (by decide) (by decide) (by decide) (by decide) (by decide)) ⟨fun a ha => xa a (by omega) (by omega) (by omega) (by omega) (by omega), xa 8 (by decide) (by decide) (by decide) (by decide) (by decide)⟩ (by omega)
    rw [er, Option.bind_some]
    show Ev ((Fil_setPlace FU (nI k) (nI D) (up w)).bind _) _
    rw [setPlace_z FU w hk, Option.bind_some, nI_1]
    obtain ⟨v, ev⟩ : ∃ v, v = stP w k D := ⟨_, rfl⟩
    rw [← ev] at hw d3 kww wI wu wkc ws ws14 ⊢
    have kzv : KW z v := kwy.trans kww
    have ha0 : y.2 0 = z0.2 0 := hy.mc.fr.1.2 0 (by decide)
    have v13 : v.1 13 = y.1 13 := ws 13 (by decide) (by decide) (by decide) (by decide)
    refine ih (k + 1) f v ch' (va_up bp k D) (by omega) (by omega) (by omega) hw (hkw.trans kzv) (fun i c1 c2 c3 => ?_) ?_ (fun j hj c => ?_) (fun j c1 c2 => ?_) (fun j i hj hi => ?_) hw1 ?_
    · rw [wI i (by omega), x13, if_neg c2, yI i (by omega) (by omega) c3, hI i c1 c2 c3]
    · rw [wI 4 (by omega), x13, if_pos rfl, yth]
      have := thr_up (bp := bp) (k := k) (v := D) hk
      rw [if_neg (by omega : ¬ D = 0)] at this
      by_cases c : bp k = 0
      · rw [if_pos c] at this ⊢; omega
      · rw [if_neg c] at this ⊢; omega
    · rw [va_up_ne _ _ (by omega)]
      exact hb1 j hj (by omega)
    · by_cases c : j = k
      · rw [c, va_up_self]; omega
      · rw [va_up_ne _ _ c]; exact hb2 j c1 (by omega)
    · by_cases c : j = k
      · rw [c, va_up_self]
        have e : byB (zV v) D i = gb (cutW (x.2 16)) i := by
          unfold byB
          rw [if_neg (by omega), d3]
        rw [e, x16 i hi, ha0]
        by_cases c2 : at' ≤ 256 * k + i ∧ 256 * k + i < at' + n
        · rw [if_pos c2, if_pos ⟨c2.1, c2.2, by omega⟩]
        · rw [if_neg c2, if_neg (fun q => c2 ⟨q.1, q.2.1⟩)]
          rw [byB_keep kwy (fun q => by rw [hbw k q]; decide), hby k i hk hi, if_neg (fun q => c2 ⟨q.1, q.2.1⟩)]
      · rw [va_up_ne _ _ c, byB_keep kzv (fun q => by rw [hbw j q]; decide), hby j i hj hi]
        by_cases c2 : at' ≤ 256 * j + i ∧ 256 * j + i < at' + n ∧ j < k
        · rw [if_pos c2, if_pos ⟨c2.1, c2.2.1, by omega⟩]
        · rw [if_neg c2, if_neg (fun q => c2 ⟨q.1, q.2.1, by omega⟩)]
    · rw [if_neg (by omega), show k + 1 - 1 = k by omega]
      have hdc := hM.dc
      have hd0 := hM.d0
      have hv : v.1 13 = ndK k := by
        rw [v13]
        by_cases c20 : 20 ≤ k
        · exact y13 c20
        · have g0 : ndK k = 0 := by
            unfold ndK
            rw [if_pos (by omega)]
          rw [ysm (Or.inl g0), g0]
          by_cases c : k = at' / 256
          · rw [if_pos c] at hac; exact hac.1
          · rw [if_neg c] at hac
            rw [hac.1]
            unfold ndK
            rw [if_pos (by omega)]
      refine ⟨hv, ?_⟩
      by_cases c : k = at' / 256
      · rw [if_pos c] at hac
        omega
      · rw [if_neg c] at hac
        have := hnd2 (by omega)
        by_cases cs : ndK k = 0 ∨ ndK k = z.1 13
        · have e := ysm cs
          rw [e] at wu
          omega
        · omega
