/-! files get shorter or longer -/
theorem clearTail_s {FU : Nat} (hF : 140000 < FU) {y z0 : NSt} {R : TRE} {tk : TKS} {PP : Nat → Nat} {ch : List Nat} {id : Nat} {bp : Nat → Nat} (h : MID y z0 R tk PP ch id bp) {size : Nat} (hs : size ≤ 100000) (hop : 20 ≤ size / 256 → y.1 13 = ndK (size / 256)) (hU : 33 ≤ Uz y) :
    Ev (Fil_clearTail FU (nI size) (up y)) fun r => ∃ x bp', r = up x ∧ MID x z0 R tk PP ch id bp' ∧ (∀ j, j ≠ size / 256 → bp' j = bp j) ∧ (bp' (size / 256) = 0 ↔ bp (size / 256) = 0) ∧ KW y x ∧ (∀ i, i < 6 ∨ 26 ≤ i → x.2 13 i = y.2 13 i) ∧ (∀ i, i < 256 → byB (zV x) (bp' (size / 256)) i = if size % 256 ≠ 0 ∧ size % 256 ≤ i then 0 else byB (zV y) (bp (size / 256)) i) ∧ Uz y ≤ Uz x + 1 ∧ Uz x ≤ Uz y ∧ KC x = KC y ∧ x.1 13 = y.1 13 := by
  have hmc := h.mc
  have hk : size / 256 < 412 := by omega
  have hbb : bp (size / 256) < 2117 := by
    by_cases c : bp (size / 256) = 0
    · omega
    · exact (hmc.bw c).2.2.1
  unfold Fil_clearTail
  rw [show (256 : Int32) = nI 256 from rfl, pk_rem (by omega) (by decide) (by decide), pk_div (by omega) (by decide) (by decide), placeOf_z FU h hk hop, Option.bind_some]
  obtain ⟨k, ek⟩ : ∃ k, k = size / 256 := ⟨_, rfl⟩
  rw [← ek] at hk hbb hop ⊢
  by_cases c : bp k = 0
  · rw [if_pos (by rw [c]; rfl)]
    refine Ev.ret ⟨y, bp, rfl, h, fun _ _ => rfl, Iff.rfl, KW.rf y, fun _ _ => rfl, fun i hi => ?_, by omega, Nat.le_refl _, rfl, rfl⟩
    unfold byB
    rw [if_pos c]
    split <;> rfl
  · rw [if_neg (ne0_I (by omega) c)]
    by_cases c2 : size % 256 = 0
    · rw [if_pos (by rw [c2]; rfl)]
      refine Ev.ret ⟨y, bp, rfl, h, fun _ _ => rfl, Iff.rfl, KW.rf y, fun _ _ => rfl, fun i hi => ?_, by omega, Nat.le_refl _, rfl, rfl⟩
      rw [if_neg (fun q => q.1 c2)]
    · rw [if_neg (ne0_I (by omega) c2), loadBlock_z hF hbb, Option.bind_some]
      show Ev ((Fil_clearFrom FU 16 (nI 0) (nI (size % 256)) (nI 256) (up (lbZ y (bp k)))).bind _) _
      refine (clearFrom_s (FU := FU) 16 0 (lo := size % 256) (hi := 256) (by omega) (by decide) (by decide) (by omega) (lbZ y (bp k))).bd ?_
      rintro _ ⟨x1, rfl, hx⟩
      have w1 := BYT.wk (hmc.wk.lb (bp k)) (by decide) hx
      have w2 := w1.drop' k
      rw [Log_drop_g FU w1.lg (by omega), Option.bind_some]
      obtain ⟨x2, e2⟩ : ∃ x2, x2 = drpZ (bp k) x1 := ⟨_, rfl⟩
      rw [← e2] at w2 ⊢
      have a2 : ∀ c, c ≠ 9 → c ≠ 10 → c ≠ 11 → c ≠ 16 → x2.2 c = y.2 c := fun c c9 c10 c11 c16 => by rw [e2, drp_2 _ _ c9 c10 c11, hx.ar c c16, lb_b c16]
      have s2 : x2.1 = y.1 := by rw [e2, drp_1, hx.s, lb_1]
      have m2 : x2.2 16 = x1.2 16 := by rw [e2, drp_2 _ _ (by decide) (by decide) (by decide)]
      obtain ⟨D, w, er, hw, d1, d2, d3, kww, wI, wu, wkc, dy, ws, ws14⟩ := repl_s hF h hk hop w2 (KW.of4 (a2 4 (by decide) (by decide) (by decide) (by decide)) (a2 5 (by decide) (by decide) (by decide) (by decide))) (a2 6 (by decide) (by decide) (by decide) (by decide)) (fun i hi => by rw [a2 13 (by decide) (by decide) (by decide) (by decide)]) (a2 14 (by decide) (by decide) (by decide) (by decide)) (a2 15 (by decide) (by decide) (by decide) (by decide)) s2 (a2 7 (by decide) (by decide) (by decide) (by decide)) ⟨fun a ha => a2 a (by omega) (by omega) (by omega) (by omega), a2 8 (by decide) (by decide) (by decide) (by decide)⟩ hU
      rw [er, Option.bind_some]
      show Ev ((Fil_setPlace FU (nI k) (nI D) (up w)).bind _) _
      rw [setPlace_z FU w hk, Option.bind_some]
      refine Ev.ret ⟨stP w k D, va_up bp k D, rfl, hw, fun j hj => va_up_ne _ _ hj, ?_, kww, fun i hi => by rw [wI i hi, a2 13 (by decide) (by decide) (by decide) (by decide)], fun i hi => ?_, by omega, by omega, wkc, ws 13 (by decide) (by decide) (by decide) (by decide)⟩
      · rw [va_up_self]
        exact ⟨fun q => by omega, fun q => absurd q c⟩
      · rw [va_up_self]
        have e : byB (zV (stP w k D)) D i = gb (fun j => x1.2 16 (0 + j)) i := by
          unfold byB
          rw [if_neg (by omega), d3, cut_gb hi]
          exact gb_congr (by rw [m2, Nat.zero_add])
        rw [e, hx.by' i]
        by_cases q : size % 256 ≤ i ∧ i < 256
        · rw [if_pos q, if_pos ⟨c2, q.1⟩]
        · rw [if_neg q, if_neg (fun v => q ⟨v.2, hi⟩), lb_gb hi]
theorem cutBlock_s {FU : Nat} (hF : 140000 < FU) {y z0 : NSt} {R : TRE} {tk : TKS} {PP : Nat → Nat} {ch : List Nat} {id : Nat} {bp : Nat → Nat} (h : MID y z0 R tk PP ch id bp) {k : Nat} (hk : k < 412) (hop : 20 ≤ k → y.1 13 = ndK k) (hth : y.2 13 4 = thr bp) :
    Ev (Fil_cutBlock FU (nI k) (up y)) fun r => ∃ x, r = up x ∧ MID x z0 R tk PP ch id (va_up bp k 0) ∧ KW y x ∧ (∀ i, i < 6 ∨ 26 ≤ i → i ≠ 4 → x.2 13 i = y.2 13 i) ∧ x.2 13 4 = thr (va_up bp k 0) ∧ Uz x = Uz y ∧ KC x = KC y ∧ x.1 13 = y.1 13 := by
  have hmc := h.mc
  have hbb : bp k < 2117 := by
    by_cases c : bp k = 0
    · omega
    · exact (hmc.bw c).2.2.1
  unfold Fil_cutBlock
  rw [placeOf_z FU h hk hop, Option.bind_some]
  by_cases c : bp k = 0
  · rw [if_pos (by rw [c]; rfl), up_same c]
    exact Ev.ret ⟨y, rfl, h, KW.rf y, fun _ _ _ => rfl, hth, rfl, rfl, rfl⟩
  · rw [if_neg (ne0_I (by omega) c), Log_drop_g FU hmc.wk.lg (by omega), Option.bind_some]
    have w2 := hmc.wk.drop' k
    have hud := (drop_LG hmc.wk.lg (bp k)).2
    obtain ⟨x, ex⟩ : ∃ x, x = drpZ (bp k) y := ⟨_, rfl⟩
    rw [← ex] at w2 hud ⊢
    have xa : ∀ c, c ≠ 9 → c ≠ 10 → c ≠ 11 → x.2 c = y.2 c := fun c c9 c10 c11 => by rw [ex, drp_2 _ _ c9 c10 c11]
    have x1 : x.1 = y.1 := by rw [ex, drp_1]
    have hKx : KC x = KC y := KC_congr (xa 7 (by decide) (by decide) (by decide))
    have kx : KW y x := KW.of4 (xa 4 (by decide) (by decide) (by decide)) (xa 5 (by decide) (by decide) (by decide))
    have hm := h.set (x := x) (k := k) (v := 0) hk hop (by decide) w2 kx (xa 6 (by decide) (by decide) (by decide)) (fun i _ => by rw [xa 13 (by decide) (by decide) (by decide)]) (xa 14 (by decide) (by decide) (by decide)) (fun i _ => by rw [xa 15 (by decide) (by decide) (by decide)]) (fun j _ => by rw [x1]) (by omega) ⟨⟨fun j _ _ _ _ _ _ _ _ => by rw [x1], fun a ha => xa a (by omega) (by omega) (by omega)⟩, xa 8 (by decide) (by decide) (by decide)⟩
    rw [show (0 : Int32) = nI 0 from rfl, setPlace_z FU x hk, Option.bind_some]
    obtain ⟨w, ew⟩ : ∃ w, w = stP x k 0 := ⟨_, rfl⟩
    rw [← ew] at hm ⊢
    have w13 : ∀ i, i < 6 ∨ 26 ≤ i → w.2 13 i = y.2 13 i := fun i hi => by rw [ew, stP_13, if_neg (by omega), xa 13 (by decide) (by decide) (by decide)]
    have hpos := thr_up (bp := bp) (k := k) (v := 0) hk
    rw [if_neg c, if_pos rfl] at hpos
    have hthl := thr_le bp
    rw [show (4 : Int32) = nI 4 from rfl, rdA_z w 13 (by decide) (by decide), Option.bind_some, w13 4 (by omega), hth, show (1 : Int32) = nI 1 from rfl, pk_sub (by omega), wrA_z w 13 (by decide) (by decide), Option.bind_some]
    obtain ⟨v, ev⟩ : ∃ v, v = zA w 13 4 (thr bp - 1) := ⟨_, rfl⟩
    have va : ∀ c, c ≠ 13 → v.2 c = w.2 c := fun c hc => by rw [ev, zA2, if_neg hc]
    have v13 : ∀ i, v.2 13 i = if i = 4 then thr bp - 1 else w.2 13 i := fun i => by rw [ev, zA2, if_pos rfl]; rfl
    have v1 : v.1 = w.1 := by rw [ev]; rfl
    rw [← ev]
    refine Ev.ret ⟨v, rfl, hm.mem v1 (fun c c13 _ => va c c13) (fun i hi => by rw [v13, if_neg (by omega)]) (fun i => ?_) (fun i => by rw [va 16 (by decide)]; exact hm.mc.wk.wd 16 (by decide) (by decide) i), ?_, fun i hi h4 => by rw [v13, if_neg h4, w13 i hi], ?_, ?_, ?_, ?_⟩
    · rw [v13]
      split
      · omega
      · exact hm.mc.wk.wd 13 (by decide) (by decide) i
    · refine (kx.trans (y := x) (KW.of4 (y := w) ?_ ?_)).trans (KW.of4 (va 4 (by decide)) (va 5 (by decide)))
      · rw [ew, stP_2 _ _ _ (by decide) (by decide)]
      · rw [ew, stP_2 _ _ _ (by decide) (by decide)]
    · rw [v13, if_pos rfl]; omega
    · have e1 : Uz v = Uz x := Uz_frame (fun j _ _ => by rw [v1, ew, stP_1 _ _ _ (by omega)])
      rw [e1, hud]
    · rw [KC_congr (va 7 (by decide)), ew, KC_congr (stP_2 _ _ _ (by decide) (by decide)), hKx]
    · rw [v1, ew, stP_1 _ _ _ (by decide), x1]
def trF (f : FV) (s : Nat) : FV :=
  if f.sm = 1 then (if s ≤ 96 then FV.of s 1 f.has (fun i => if i < s then f.byt i else 0) else FV.of s 0 (fun k => if k = 0 then 1 else 0) f.byt)
  else if s < f.sz then FV.of s (if s = 0 then 1 else 0) (fun k => if 256 * k < s then f.has k else 0) (fun i => if i < s then f.byt i else 0) else FV.of s 0 f.has f.byt
theorem end123_s {FU : Nat} (hF : 140000 < FU) {y z0 : NSt} {T R : TRE} {tk : TKS} {PP : Nat → Nat} {ch ch0 : List Nat} {id : Nat} {bp : Nat → Nat} {fv : FV} {s : Nat} (h0 : NW z0 T R tk PP ch0) (h : MID y z0 R tk PP ch id bp) (hk : T.kd id = 1) (hs : s ≤ 100000) (hf : FOK (zV y) (va_up (y.2 13) 1 s) bp fv) (hlk : y.2 13 2 = T.lk id) (hU : 36 ≤ Uz y) (hse : z0.1 11 < 2 ^ 32) (hK : KC y + 2 < 1797) :
    Ev (Fil_resize_b123 FU (nI s) (up y)) fun r => ∃ w ch', r = up w ∧ NW w (T.wFil (va_up T.fil id fv)) R tk PP ch' ∧ FR z0 w ∧ w.2 8 = z0.2 8 ∧ Uz y ≤ Uz w + 3 ∧ KC w + Uz w ≤ KC z0 + Uz z0 := by
  unfold Fil_resize_b123
  rw [show (1 : Int32) = nI 1 from rfl, wrA_z y 13 (by decide) (by decide), Option.bind_some]
  obtain ⟨x, ex⟩ : ∃ x, x = zA y 13 1 s := ⟨_, rfl⟩
  have xa : ∀ c, c ≠ 13 → x.2 c = y.2 c := fun c hc => by rw [ex, zA2, if_neg hc]
  have x13 : x.2 13 = va_up (y.2 13) 1 s := by rw [ex, zA2, if_pos rfl]
  have x1 : x.1 = y.1 := by rw [ex]; rfl
  have hx : MID x z0 R tk PP ch id bp := h.mem x1 (fun c c13 _ => xa c c13) (fun i hi => by rw [x13, va_up_ne _ _ (by omega)]) (fun i => by
    rw [x13]
    unfold va_up
    split
    · omega
    · exact h.mc.wk.wd 13 (by decide) (by decide) i) (fun i => by rw [xa 16 (by decide)]; exact h.mc.wk.wd 16 (by decide) (by decide) i)
  have hV : zV x = zV y := funext (zV_congr (xa 4 (by decide)))
  have ux : Uz x = Uz y := Uz_frame (fun j _ _ => by rw [x1])
  have hKx : KC x = KC y := KC_congr (xa 7 (by decide))
  have hx11 : x.1 11 = z0.1 11 := hx.mc.fr.1.1 11 (by decide) (by decide) (by decide) (by decide) (by decide) (by decide) (by decide) (by decide)
  have hdc := hx.dc
  rw [← ex]
  refine (finish_s hF h0 hx hk (fv := fv) (by rw [hV, x13]; exact hf) (by rw [x13, va_up_ne _ _ (by decide)]; exact hlk) (by omega) (by omega) (by omega)).bd ?_
  rintro _ ⟨w, ch', rfl, n1, n2, n3, n4, n5, n6⟩
  exact Ev.ret ⟨w, ch', rfl, n1, n2, n3, by omega, n5⟩
/-- where the loop over the blocks stands -/
def lpP (k0 k s : Nat) : Nat := if k = k0 then s / 256 else k - 1
def paid (z : NSt) (k0 : Nat) : Nat := if 1 ≤ z.1 13 ∧ 20 + 56 * (z.1 13 - 1) < k0 then 0 else 1
theorem cutLoop {FU : Nat} (hF : 140000 < FU) {z0 z1 : NSt} {R : TRE} {tk : TKS} {PP : Nat → Nat} {id : Nat} (i1 : 1 ≤ id) (i2 : id ≤ 250) {s e : Nat} {bp1 : Nat → Nat} (hs : s ≤ 100000) (he : e ≤ 391) (hse : z0.1 11 < 2 ^ 32) (hU1 : 60 ≤ Uz z1) (hK : KC z0 + Uz z0 ≤ 1760 + Uz z1) (Q : St → Prop)
    (hq : ∀ z ch bp, MID z z0 R tk PP ch id bp → KW z1 z → (∀ i, i < 6 ∨ 28 ≤ i → i ≠ 4 → i < 62 → z.2 13 i = z1.2 13 i) → z.2 13 4 = thr bp → (∀ j, bp j = if (s + 255) / 256 ≤ j ∧ j < e then 0 else bp1 j) → Uz z1 ≤ Uz z + 1 → Ev (if nI s = 0 then Fil_resize_b122 FU (nI s) (1 : Int32) (3 : Int32) (up z) else Fil_resize_b122 FU (nI s) (0 : Int32) (3 : Int32) (up z)) Q) :
    ∀ (m k f : Nat) (z : NSt) (ch : List Nat) (bp : Nat → Nat), k + m = e → m < f → (s + 255) / 256 ≤ k → MID z z0 R tk PP ch id bp → KW z1 z → (∀ i, i < 6 ∨ 28 ≤ i → i ≠ 4 → i < 62 → z.2 13 i = z1.2 13 i) → z.2 13 4 = thr bp → (∀ j, bp j = if (s + 255) / 256 ≤ j ∧ j < k then 0 else bp1 j) → z.1 13 = ndK (lpP ((s + 255) / 256) k s) → Uz z1 ≤ Uz z + paid z ((s + 255) / 256) → Ev (Fil_resize_b84 FU f (nI s) (nI e) (nI k) (up z)) Q := by
  intro m
  induction m with
  | zero =>
    intro k f z ch bp e1 e2 e3 hM hkw hI hth hb hop hac
    obtain ⟨f, rfl⟩ : ∃ q9, f = q9 + 1 := ⟨f - 1, by omega⟩
    have e1 : k = e := e1
    subst e1
    unfold Fil_resize_b84
    rw [if_pos (nI_le (Nat.le_refl _) (by omega))]
    refine hq z ch bp hM hkw hI hth hb ?_
    unfold paid at hac
    split at hac <;> omega
  | succ m ih =>
    intro k f z ch bp e1 e2 e3 hM hkw hI hth hb hop hac
    obtain ⟨f, rfl⟩ : ∃ q9, f = q9 + 1 := ⟨f - 1, by omega⟩
    have hk : k < 412 := by omega
    have hpa : paid z ((s + 255) / 256) ≤ 1 := by unfold paid; split <;> omega
    have hz11 : z.1 11 = z0.1 11 := hM.mc.fr.1.1 11 (by decide) (by decide) (by decide) (by decide) (by decide) (by decide) (by decide) (by decide)
    have hkc := hM.mc.kc
    unfold Fil_resize_b84
    rw [if_neg (nI_ge (by omega) (by omega))]
    refine (turnTo_s hF hM i1 i2 (by omega) (by omega) (by omega) hk).bd ?_
    rintro _ ⟨y, ch', rfl, hy, y13, ysm, y14, kwy, yI, y16, yu1, yu2, yu3, ykc, y11⟩
    refine (cutBlock_s hF hy hk y13 (by rw [yI 4 (by decide) (by decide) (by decide), hth])).bd ?_
    rintro _ ⟨x, rfl, hx, kwx, xI, xth, xu, xkc, x13⟩
    rw [nI_1]
    have hlp : lpP ((s + 255) / 256) k s ≤ k ∧ k ≤ lpP ((s + 255) / 256) k s + 1 := by
      unfold lpP
      split <;> omega
    have hnd : ndK (lpP ((s + 255) / 256) k s) ≤ ndK k := by
      unfold ndK
      split <;> split <;> omega
    have hyo : y.1 13 = ndK k := by
      by_cases c20 : 20 ≤ k
      · exact y13 c20
      · have g0 : ndK k = 0 := by
          unfold ndK
          rw [if_pos (by omega)]
        rw [ysm (Or.inl g0), hop]
        omega
    refine ih (k + 1) f x ch' (va_up bp k 0) (by omega) (by omega) (by omega) hx ((hkw.trans kwy).trans kwx) (fun i c1 c2 c3 => ?_) xth (fun j => ?_) ?_ ?_
    · rw [xI i (by omega) c2, yI i (by omega) (by omega) c3, hI i c1 c2 c3]
    · unfold va_up
      by_cases c : j = k
      · rw [if_pos c, if_pos (by omega)]
      · rw [if_neg c, hb j]
        by_cases d : (s + 255) / 256 ≤ j ∧ j < k
        · rw [if_pos d, if_pos (by omega)]
        · rw [if_neg d, if_neg (by omega)]
    · rw [x13, hyo]
      unfold lpP
      rw [if_neg (by omega), show k + 1 - 1 = k by omega]
    · have hxp : paid x ((s + 255) / 256) = paid y ((s + 255) / 256) := by
        unfold paid
        rw [x13]
      rw [hxp, xu]
      by_cases cs : ndK k = 0 ∨ ndK k = z.1 13
      · rw [ysm cs]; exact hac
      · have c0 : ndK k ≠ 0 := fun q => cs (Or.inl q)
        have c1 : ndK k ≠ z.1 13 := fun q => cs (Or.inr q)
        -- a new node begins at k
        have hst : 20 + 56 * (ndK k - 1) = k ∧ (1 ≤ z.1 13 → 20 + 56 * z.1 13 = k) := by
          rw [hop] at c1 ⊢
          exact nd_new hlp.1 hlp.2 c0 c1
        have hp1 : paid y ((s + 255) / 256) = 1 := by
          unfold paid
          rw [hyo, if_neg (by omega)]
        rw [hp1]
        by_cases cz : 1 ≤ z.1 13
        · by_cases cp : 20 + 56 * (z.1 13 - 1) < (s + 255) / 256
          · have hp0 : paid z ((s + 255) / 256) = 0 := by
              unfold paid
              rw [if_pos ⟨cz, cp⟩]
            have := hM.dc
            omega
          · have := yu3 (fun i hi => by
              rw [← hM.bo cz i hi, hb, if_pos]
              have := hst.2 cz
              omega)
            omega
        · have := hM.d0 (by omega)
          omega
theorem resize_s {FU : Nat} (hF : 140000 < FU) {z0 : NSt} {T R : TRE} {tk : TKS} {PP : Nat → Nat} {ch0 : List Nat} {id s : Nat} (h0 : NW z0 T R tk PP ch0) (hk : T.kd id = 1) (hs : s ≤ 100000) (hU : 80 ≤ Uz z0) (hse : z0.1 11 < 2 ^ 32) (hK : KC z0 ≤ 1700) :
    Ev (Fil_resize FU (nI id) (nI s) (up z0)) fun r => ∃ w ch', r = up w ∧ NW w (T.wFil (va_up T.fil id (trF (T.fil id) s))) R tk PP ch' ∧ FR z0 w ∧ w.2 8 = z0.2 8 ∧ Uz z0 ≤ Uz w + 6 ∧ KC w + Uz w ≤ KC z0 + Uz z0 := by
  obtain ⟨g1, g2, g3⟩ := h0.tok.rng id (by omega)
  have hi := h0.tok.ids id g1 g2
  obtain ⟨hfo, hlk, hno⟩ := hi.fil hk
  have hp0 : z0.2 6 id ≠ 0 := fun q => by
    have := hi.pl.mp q
    omega
  obtain ⟨k0, -, -⟩ := hi.kd (by omega)
  have hbF : ∀ k, k < 412 → BPL (zV z0) (z0.2 6) id k = bpF (zV z0) (z0.2 6) id k := fun k hk' => BPL_f hp0 g2 (by rw [k0, hk]; decide) hk'
  unfold Fil_resize
  refine (begin_s hF h0 hk).bd ?_
  rintro _ ⟨z, rfl, hz, z13, z14, z15, zI, za, zu, -⟩
  obtain ⟨f, ef⟩ : ∃ f, f = T.fil id := ⟨_, rfl⟩
  rw [← ef] at hfo ⊢
  obtain ⟨bp, ebp⟩ : ∃ bp, bp = BPL (zV z0) (z0.2 6) id := ⟨_, rfl⟩
  rw [← ebp] at hz hbF
  have hfz : FOK (zV z) (z.2 13) bp f := by
    have hV : zV z = zV z0 := funext (zV_congr (za 4 (by decide) (by decide)))
    rw [hV]
    exact (hfo.keep (W' := zV z0) (bp' := bp) hbF (fun _ _ _ => rfl)).all (fun i hi' => zI i (by omega))
  have zlk : z.2 13 2 = T.lk id := by rw [zI 2 (by decide), hlk]
  have hKz : KC z = KC z0 := KC_congr (za 7 (by decide) (by decide))
  have hsmb := hfz.smb
  have hszb := hfz.szb
  rw [show (3 : Int32) = nI 3 from rfl, rdA_z z 13 (by decide) (by decide), Option.bind_some, hfz.sml, show (1 : Int32) = nI 1 from rfl, show (96 : Int32) = nI 96 from rfl]
  by_cases c1 : f.sm = 1
  · rw [c1, if_pos rfl]
    obtain ⟨s1, s2⟩ := hfz.small c1
    have ebyt : ∀ i, i < 105472 → f.byt i = if i < 96 then gb (fun j => z.2 13 (30 + j)) i else 0 := fun i hi' => by
      rw [← hfz.byt i hi']
      unfold byI
      rw [hfz.sml, c1, if_pos rfl]
    by_cases c96 : s ≤ 96
    · rw [if_pos (nI_le c96 (by decide)), show (30 : Int32) = nI 30 from rfl]
      have etr : trF f s = FV.of s 1 f.has (fun i => if i < s then f.byt i else 0) := by
        unfold trF
        rw [if_pos c1, if_pos c96]
      rw [etr]
      refine (clearFrom_s (FU := FU) 13 30 (lo := s) (hi := 96) (by omega) (by decide) (by decide) c96 z).bd ?_
      rintro _ ⟨y, rfl, hy⟩
      have y13 : ∀ i, i < 30 ∨ 54 ≤ i → y.2 13 i = z.2 13 i := fun i hi' => hy.out i (by omega)
      have hY : MID y z0 R tk PP ch0 id bp := hz.mem hy.s (fun c c13 _ => hy.ar c c13) (fun i hi' => y13 i (by omega)) (hy.wd (fun j => hz.mc.wk.wd 13 (by decide) (by decide) j)) (fun i => by rw [hy.ar 16 (by decide)]; exact hz.mc.wk.wd 16 (by decide) (by decide) i)
      have uy : Uz y = Uz z := Uz_frame (fun j _ _ => by rw [hy.s])
      have hKy : KC y = KC z := KC_congr (hy.ar 7 (by decide))
      refine (end123_s hF h0 hY hk (fv := FV.of s 1 f.has (fun i => if i < s then f.byt i else 0)) hs ?_ (by rw [y13 2 (by omega), zlk]) (by omega) hse (by omega)).mono ?_
      · refine ⟨va_up_self _ _ _, hs, ?_, Nat.le_refl 1, fun _ => ⟨c96, s2⟩, hfz.has, ?_, fun k hk' q => absurd (s2 k hk') q, fun i hi' => ?_, fun i hi' => ?_, fun q => absurd q (show ¬ (1 = 0) by decide), fun q => absurd q (show ¬ (1 = 0) by decide)⟩
        · rw [va_up_ne _ _ (by decide), y13 3 (by omega), hfz.sml, c1]; rfl
        · rw [va_up_ne _ _ (by decide), y13 4 (by omega), hfz.there]
        · unfold byI
          rw [va_up_ne _ _ (by decide), y13 3 (by omega), hfz.sml, c1, if_pos rfl]
          show _ = if i < s then f.byt i else 0
          by_cases d : i < 96
          · rw [if_pos d]
            have e3 : gb (fun j => va_up (y.2 13) 1 s (30 + j)) i = gb (fun j => y.2 13 (30 + j)) i := gb_congr (va_up_ne _ _ (by omega))
            rw [e3, hy.by' i]
            by_cases c : i < s
            · rw [if_neg (by omega), if_pos c, ebyt i hi', if_pos d]
            · rw [if_pos (by omega), if_neg c]
          · rw [if_neg d, if_neg (by omega)]
        · show (if i < s then f.byt i else 0) = 0
          have hi' : s ≤ i := hi'
          rw [if_neg (by omega)]
      · rintro _ ⟨w, ch', rfl, n1, n2, n3, n4, n5⟩
        exact ⟨w, ch', rfl, n1, n2, n3, by omega, n5⟩
    · rw [if_neg (nI_ge (by omega) (by omega))]
      have etr : trF f s = FV.of s 0 (fun k => if k = 0 then 1 else 0) f.byt := by
        unfold trF
        rw [if_pos c1, if_neg c96]
      rw [etr]
      refine (leaveSmall_s hF hz (s2 0 (by decide)) (by omega)).bd ?_
      rintro _ ⟨y, D, rfl, l1, l2, l3, l4, l5, l6, l7, l8, l9, l10, l11, l12, l13⟩
      have b0 : ∀ k, k < 412 → va_up bp 0 D k = if k = 0 then D else 0 := fun k hk' => by
        unfold va_up
        by_cases c : k = 0
        · rw [if_pos c, if_pos c]
        · rw [if_neg c, if_neg c, s2 k hk']
      refine (end123_s hF h0 l1 hk (fv := FV.of s 0 (fun k => if k = 0 then 1 else 0) f.byt) hs ?_ (by rw [l6, zlk]) (by omega) hse (by omega)).mono ?_
      · refine ⟨va_up_self _ _ _, hs, ?_, Nat.zero_le 1, fun q => absurd q (show ¬ (0 = 1) by decide), fun k hk' => ?_, ?_, fun k hk' q => ?_, fun i hi' => ?_, fun i hi' => ?_, fun _ j hj => ?_, fun _ => ?_⟩
        · rw [va_up_ne _ _ (by decide), l7]; rfl
        · show (if k = 0 then 1 else 0) = _
          rw [b0 k hk']
          by_cases c : k = 0
          · rw [if_pos c, if_pos c, if_neg (by omega)]
          · rw [if_neg c, if_neg c, if_pos rfl]
        · rw [va_up_ne _ _ (by decide), l8]
          have := thr_up (bp := bp) (k := 0) (v := D) (by decide)
          rw [s2 0 (by decide), if_pos rfl, if_neg (by omega : ¬ D = 0)] at this
          have e0 : thr bp = 0 := sm_zero (fun k hk' => by rw [s2 k hk', if_pos rfl])
          show 1 = thr (va_up bp 0 D)
          omega
        · show 256 * k < s
          rw [b0 k hk'] at q
          by_cases c : k = 0
          · omega
          · rw [if_neg c] at q; exact absurd rfl q
        · show _ = f.byt i
          unfold byI
          rw [va_up_ne _ _ (by decide), l7, if_neg (by decide), b0 _ (by omega), ebyt i hi']
          unfold byB
          by_cases c : i / 256 = 0
          · rw [if_pos c, if_neg (by omega), l4 _ (Nat.mod_lt _ (by decide)), show i % 256 = i by omega]
          · rw [if_neg c, if_pos rfl, if_neg (by omega)]
        · show f.byt i = 0
          have hi' : s ≤ i := hi'
          exact hfz.zer i (by omega)
        · rw [va_up_ne _ _ (by omega), l9 j hj]
        · show 0 < s
          omega
      · rintro _ ⟨w, ch', rfl, n1, n2, n3, n4, n5⟩
        exact ⟨w, ch', rfl, n1, n2, n3, by omega, n5⟩
  · have c0 : f.sm = 0 := by omega
    have ebyt : ∀ i, i < 105472 → f.byt i = byB (zV z) (bp (i / 256)) (i % 256) := fun i hi' => by
      rw [← hfz.byt i hi']
      unfold byI
      rw [hfz.sml, c0, if_neg (by decide)]
    rw [c0, if_neg (by decide), rdA_z z 13 (by decide) (by decide), Option.bind_some, hfz.sz]
    by_cases cs : f.sz ≤ s
    · rw [if_pos (nI_le cs (by omega))]
      have etr : trF f s = FV.of s 0 f.has f.byt := by
        unfold trF
        rw [if_neg c1, if_neg (by omega)]
      rw [etr]
      have hpos := hfz.pos c0
      refine (end123_s hF h0 hz hk (fv := FV.of s 0 f.has f.byt) hs ?_ zlk (by omega) hse (by omega)).mono ?_
      · refine ⟨va_up_self _ _ _, hs, ?_, Nat.zero_le 1, fun q => absurd q (show ¬ (0 = 1) by decide), hfz.has, ?_, fun k hk' q => ?_, fun i hi' => ?_, fun i hi' => ?_, fun _ j hj => ?_, fun _ => ?_⟩
        · rw [va_up_ne _ _ (by decide), hfz.sml, c0]; rfl
        · rw [va_up_ne _ _ (by decide), hfz.there]
        · have := hfz.lim k hk' q
          show 256 * k < s
          omega
        · show _ = f.byt i
          unfold byI
          rw [va_up_ne _ _ (by decide), hfz.sml, c0, if_neg (by decide), ebyt i hi']
        · have hi' : s ≤ i := hi'
          exact hfz.zer i (by omega)
        · rw [va_up_ne _ _ (by omega)]; exact hfz.inl c0 j hj
        · show 0 < s
          omega
      · rintro _ ⟨w, ch', rfl, n1, n2, n3, n4, n5⟩
        exact ⟨w, ch', rfl, n1, n2, n3, by omega, n5⟩
    · rw [if_neg (nI_ge (by omega) (by omega)), show (256 : Int32) = nI 256 from rfl, pk_div (by omega) (by decide) (by decide)]
      have hz11 : z.1 11 = z0.1 11 := hz.mc.fr.1.1 11 (by decide) (by decide) (by decide) (by decide) (by decide) (by decide) (by decide) (by decide)
      have etr : trF f s = FV.of s (if s = 0 then 1 else 0) (fun k => if 256 * k < s then f.has k else 0) (fun i => if i < s then f.byt i else 0) := by
        unfold trF
        rw [if_neg c1, if_pos (by omega)]
      rw [etr]
      refine (turnTo_s hF hz g1 g2 (by omega) (by omega) (by omega) (k := s / 256) (by omega)).bd ?_
      rintro _ ⟨y, ch', rfl, hy, y13, ysm, y14, kwy, yI, y16, yu1, yu2, yu3, ykc, y11⟩
      have hy13 : y.1 13 = ndK (s / 256) := by
        by_cases c20 : 20 ≤ s / 256
        · exact y13 c20
        · have g0 : ndK (s / 256) = 0 := by
            unfold ndK
            rw [if_pos (by omega)]
          rw [ysm (Or.inl g0), z13, g0]
      refine (clearTail_s hF hy hs y13 (by omega)).bd ?_
      rintro _ ⟨x, bp', rfl, hx, xb, xb0, kwx, xI, xby, xu1, xu2, xkc, x13⟩
      have hbw := fun j (q : bp j ≠ 0) => (hz.mc.bw q).1
      have hxth : thr bp' = thr bp := sm_congr (fun j _ => by
        by_cases c : j = s / 256
        · rw [c]
          by_cases d : bp (s / 256) = 0
          · rw [if_pos (xb0.mpr d), if_pos d]
          · rw [if_neg (fun q => d (xb0.mp q)), if_neg d]
        · rw [xb j c])
      have x1 : x.2 13 1 = f.sz := by rw [xI 1 (by omega), yI 1 (by decide) (by decide) (by decide), hfz.sz]
      rw [rdA_z x 13 (by decide) (by decide), Option.bind_some, x1]
      unfold FF_blocksBegun
      rw [Option.bind_some, Option.bind_some, show (256 : Int32) = nI 256 from rfl, show (1 : Int32) = nI 1 from rfl, nI_add, nI_add, pk_sub (by omega), pk_sub (by omega), pk_div (by omega) (by decide) (by decide), pk_div (by omega) (by decide) (by decide), show f.sz + 256 - 1 = f.sz + 255 by omega, show s + 256 - 1 = s + 255 by omega]
      refine cutLoop hF (z0 := z0) (z1 := x) (R := R) (tk := tk) (PP := PP) (id := id) g1 g2 (s := s) (e := (f.sz + 255) / 256) (bp1 := bp') hs (by omega) hse (by omega) (by omega) _ ?_ ((f.sz + 255) / 256 - (s + 255) / 256) ((s + 255) / 256) FU x ch' bp' (by omega) (by omega) (Nat.le_refl _) hx (KW.rf x) (fun _ _ _ _ => rfl) ?_ (fun j => by rw [if_neg (by omega)]) ?_ (by unfold paid; split <;> omega)
      · intro w ch2 bpw q1 q2 q3 q4 q5 q6
        have hw1 : ∀ i, i < 6 ∨ 28 ≤ i → i ≠ 4 → i < 62 → w.2 13 i = z.2 13 i := fun i a b c => by rw [q3 i a b c, xI i (by omega), yI i (by omega) (by omega) c]
        have hfin : ∀ (u : NSt), u.1 = w.1 → (∀ c, c ≠ 13 → u.2 c = w.2 c) → (∀ i, u.2 13 i = if i = 3 then (if s = 0 then 1 else 0) else w.2 13 i) → Ev (Fil_resize_b123 FU (nI s) (up u)) fun r => ∃ w ch', r = up w ∧ NW w (T.wFil (va_up T.fil id (FV.of s (if s = 0 then 1 else 0) (fun k => if 256 * k < s then f.has k else 0) (fun i => if i < s then f.byt i else 0)))) R tk PP ch' ∧ FR z0 w ∧ w.2 8 = z0.2 8 ∧ Uz z0 ≤ Uz w + 6 ∧ KC w + Uz w ≤ KC z0 + Uz z0 := by
          intro u u1 ua u13
          have hu : MID u z0 R tk PP ch2 id bpw := q1.mem u1 (fun c c13 _ => ua c c13) (fun i hi' => by rw [u13, if_neg (by omega)]) (fun i => by
            rw [u13]
            split
            · split <;> decide
            · exact q1.mc.wk.wd 13 (by decide) (by decide) i) (fun i => by rw [ua 16 (by decide)]; exact q1.mc.wk.wd 16 (by decide) (by decide) i)
          have hVu : zV u = zV w := funext (zV_congr (ua 4 (by decide)))
          have uu : Uz u = Uz w := Uz_frame (fun j _ _ => by rw [u1])
          have hKu : KC u = KC w := KC_congr (ua 7 (by decide))
          have hkc := q1.mc.kc
          have hbpw : ∀ k, k < 412 → (bpw k = 0 ↔ ¬ 256 * k < s ∨ bp k = 0) := fun k hk' => by
            rw [q5 k]
            by_cases c : (s + 255) / 256 ≤ k ∧ k < (f.sz + 255) / 256
            · rw [if_pos c]
              exact ⟨fun _ => Or.inl (by omega), fun _ => rfl⟩
            · rw [if_neg c]
              have e9 : bp' k = 0 ↔ bp k = 0 := by
                by_cases d : k = s / 256
                · rw [d]; exact xb0
                · rw [xb k d]
              rw [e9]
              refine ⟨fun q => Or.inr q, fun q => ?_⟩
              rcases q with q | q
              · refine Classical.byContradiction (fun v => ?_)
                have := hfz.lim k hk' v
                omega
              · exact q
          have hdat : ∀ i, i < 105472 → byB (zV w) (bpw (i / 256)) (i % 256) = if i < s then f.byt i else 0 := fun i hi' => by
            rw [q5 (i / 256)]
            by_cases c : (s + 255) / 256 ≤ i / 256 ∧ i / 256 < (f.sz + 255) / 256
            · rw [if_pos c, if_neg (by omega)]
              exact if_pos rfl
            · rw [if_neg c, byB_keep q2 (fun q => by rw [(hx.mc.bw q).1]; decide)]
              by_cases d : i / 256 = s / 256
              · rw [d, xby (i % 256) (Nat.mod_lt _ (by decide)), byB_keep kwy (fun q => by rw [hbw _ q]; decide)]
                by_cases e9 : s % 256 ≠ 0 ∧ s % 256 ≤ i % 256
                · rw [if_pos e9, if_neg (by omega)]
                · rw [if_neg e9, ← d, ← ebyt i hi']
                  by_cases e8 : i < s
                  · rw [if_pos e8]
                  · rw [if_neg e8]
                    exact hfz.zer i (by omega)
              · rw [xb _ d, byB_keep kwx (fun q => by rw [(hy.mc.bw q).1]; decide), byB_keep kwy (fun q => by rw [hbw _ q]; decide), ← ebyt i hi']
                by_cases e8 : i < s
                · rw [if_pos e8]
                · rw [if_neg e8]
                  exact hfz.zer i (by omega)
          refine (end123_s hF h0 hu hk (fv := FV.of s (if s = 0 then 1 else 0) (fun k => if 256 * k < s then f.has k else 0) (fun i => if i < s then f.byt i else 0)) hs ?_ (by rw [u13, if_neg (by decide), hw1 2 (by omega) (by decide) (by decide), zlk]) (by omega) hse (by omega)).mono ?_
          · have hinl : ∀ j, j < 24 → u.2 13 (30 + j) = 0 := fun j hj => by rw [u13, if_neg (by omega), hw1 _ (by omega) (by omega) (by omega)]; exact hfz.inl c0 j hj
            refine ⟨va_up_self _ _ _, hs, ?_, ?_, fun q => ?_, fun k hk' => ?_, ?_, fun k hk' q => ?_, fun i hi' => ?_, fun i hi' => ?_, fun _ j hj => ?_, fun q => ?_⟩
            · rw [va_up_ne _ _ (by decide), u13, if_pos rfl]; rfl
            · show (if s = 0 then 1 else 0) ≤ 1
              split <;> omega
            · have q : (if s = 0 then 1 else 0) = 1 := q
              have hs0 : s = 0 := by
                refine Classical.byContradiction (fun v => ?_)
                rw [if_neg v] at q
                omega
              exact ⟨by show s ≤ 96; omega, fun k hk' => (hbpw k hk').mpr (Or.inl (by omega))⟩
            · show (if 256 * k < s then f.has k else 0) = _
              have := hbpw k hk'
              by_cases d : 256 * k < s
              · rw [if_pos d, hfz.has k hk']
                by_cases e9 : bp k = 0
                · rw [if_pos e9, if_pos (this.mpr (Or.inr e9))]
                · rw [if_neg e9, if_neg (fun v => (this.mp v).elim (fun w => w d) e9)]
              · rw [if_neg d, if_pos (this.mpr (Or.inl d))]
            · rw [va_up_ne _ _ (by decide), u13, if_neg (by decide), q4]; rfl
            · show 256 * k < s
              refine Classical.byContradiction (fun v => ?_)
              exact q ((hbpw k hk').mpr (Or.inl v))
            · show _ = if i < s then f.byt i else 0
              unfold byI
              rw [va_up_ne _ _ (by decide), u13, if_pos rfl]
              by_cases d : s = 0
              · rw [if_pos d, if_pos rfl, if_neg (by omega : ¬ i < s)]
                by_cases e9 : i < 96
                · rw [if_pos e9]
                  refine gb_0 ?_
                  rw [va_up_ne _ _ (by omega), hinl _ (by omega)]
                · rw [if_neg e9]
              · rw [if_neg d, if_neg (by decide), hVu, hdat i hi']
            · have hi' : s ≤ i := hi'
              show (if i < s then f.byt i else 0) = 0
              rw [if_neg (by omega)]
            · rw [va_up_ne _ _ (by omega), hinl j hj]
            · have q : (if s = 0 then 1 else 0) = 0 := q
              show 0 < s
              by_cases d : s = 0
              · rw [if_pos d] at q; omega
              · omega
          · rintro _ ⟨v, ch', rfl, n1, n2, n3, n4, n5⟩
            exact ⟨v, ch', rfl, n1, n2, n3, by omega, n5⟩
        by_cases c : s = 0
        · rw [if_pos (by rw [c]; rfl)]
          unfold Fil_resize_b122
          rw [show (3 : Int32) = nI 3 from rfl, show (1 : Int32) = nI 1 from rfl, wrA_z w 13 (by decide) (by decide), Option.bind_some]
          refine hfin _ rfl (fun d hd => by rw [zA2, if_neg hd]) (fun i => ?_)
          rw [zA2, if_pos rfl, if_pos c]
          rfl
        · rw [if_neg (ne0_I (by omega) c)]
          unfold Fil_resize_b122
          rw [show (3 : Int32) = nI 3 from rfl, show (0 : Int32) = nI 0 from rfl, wrA_z w 13 (by decide) (by decide), Option.bind_some]
          refine hfin _ rfl (fun d hd => by rw [zA2, if_neg hd]) (fun i => ?_)
          rw [zA2, if_pos rfl, if_neg c]
          rfl
      · rw [xI 4 (by omega), yI 4 (by decide) (by decide) (by decide), hfz.there, hxth]
        rfl
      · rw [x13, hy13]
        unfold lpP
        rw [if_pos rfl]
