/-! a block of a file is put anew -/
theorem up_va (F : Nat → Nat → Nat) (id : Nat) (g g' : Nat → Nat) (h : ∀ k, g k = g' k) : va_up F id g = va_up F id g' := by rw [funext h]
theorem WK.drop' {z : NSt} {F : Nat → Nat → Nat} {id : Nat} {bp : Nat → Nat} {T : TRE} {tk : TKS} {PP : Nat → Nat} {ch : List Nat} (h : WK z (va_up F id bp) T tk PP ch) (k : Nat) : WK (drpZ (bp k) z) (va_up F id (va_up bp k 0)) T tk PP ch := by
  by_cases c : bp k = 0
  · rw [c, drpZ_0, up_same c]; exact h
  · have := h.drop (n := id) (i := k) (by rw [va_up_self]; exact c)
    rw [va_up_self, up_va2] at this
    exact this
theorem drp_KC {z : NSt} (p : Nat) : KC (drpZ p z) = KC z := KC_congr (drp_2 _ _ (by decide) (by decide) (by decide))
theorem repl_s {FU : Nat} (hF : 140000 < FU) {y x z0 : NSt} {R : TRE} {tk : TKS} {PP : Nat → Nat} {ch : List Nat} {id : Nat} {bp : Nat → Nat} (h : MID y z0 R tk PP ch id bp) {k : Nat} (hk : k < 412) (hop : 20 ≤ k → y.1 13 = ndK k) (wx : WK x (va_up (BPL (zV z0) (z0.2 6)) id (va_up bp k 0)) R tk PP ch) (kw : KW y x) (x6 : x.2 6 = y.2 6) (xI : ∀ i, i = 0 ∨ (6 ≤ i ∧ i < 29) ∨ i = 58 ∨ i = 61 → x.2 13 i = y.2 13 i) (x14 : x.2 14 = y.2 14) (x15 : x.2 15 = y.2 15) (xs : x.1 = y.1) (x7 : x.2 7 = y.2 7) (hfr : (∀ a, a ≤ 3 → x.2 a = y.2 a) ∧ x.2 8 = y.2 8) (hU : 33 ≤ Uz y) :
    ∃ D w, Log_putData FU 16 (up x) = some (nI D, up w) ∧ MID (stP w k D) z0 R tk PP ch id (va_up bp k D) ∧ 69 ≤ D ∧ D < 2117 ∧ zV (stP w k D) D = cutW (x.2 16) ∧ KW y (stP w k D) ∧ (∀ i, i < 6 ∨ 26 ≤ i → (stP w k D).2 13 i = x.2 13 i) ∧ Uz (stP w k D) + 1 = Uz y ∧ KC (stP w k D) = KC y ∧ y.2 5 D = 0 ∧ (∀ j, j ≠ 7 → j ≠ 9 → j ≠ 10 → j ≠ 14 → (stP w k D).1 j = y.1 j) ∧ (stP w k D).1 14 = if 20 ≤ k then 1 else y.1 14 := by
  have ux : Uz x = Uz y := Uz_frame (fun k _ _ => by rw [xs])
  obtain ⟨_, er, w, rfl, hl, hpd⟩ := putData_s (FU := FU) (a := 16) (by omega) (by decide) (by decide) wx.lg (by omega)
  obtain ⟨q4, q5, q9, qn, qs, qu, qw0, qu0, q69, q70, q12⟩ := _root_.id hpd
  have hS := wx.lg.1.1.2.1
  have w1 := wx.data (n := id) (i := k) ⟨by decide, by decide⟩ hpd hl (by rw [va_up_self, va_up_self])
  rw [up_va2] at w1
  have e2 : va_up (va_up bp k 0) k (x.1 9) = va_up bp k (x.1 9) := by
    funext j
    unfold va_up
    split <;> rfl
  rw [e2] at w1
  obtain ⟨D, eD⟩ : ∃ D, D = x.1 9 := ⟨_, rfl⟩
  rw [← eD] at er w1 qw0 q69 q70
  have wa : ∀ c, 13 ≤ c → w.2 c = x.2 c := fun c hc => qn c (by omega) (by omega) (by omega) (by omega) (by omega)
  have w6 : w.2 6 = x.2 6 := qn 6 (by decide) (by decide) (by decide) (by decide) (by decide)
  have w7 : w.2 7 = x.2 7 := qn 7 (by decide) (by decide) (by decide) (by decide) (by decide)
  have hKw : KC w = KC y := by rw [KC_congr w7, KC_congr x7]
  have kww : KW y w := kw.trans hpd.kw
  have hy0 : y.2 5 D = 0 := by
    refine Classical.byContradiction (fun q => ?_)
    exact (kw.1 D q).1 qw0
  have hm := h.set (x := w) (k := k) (v := D) hk hop (by omega) w1 kww (by rw [w6, x6]) (fun i hi => by rw [wa 13 (by decide)]; exact xI i hi) (by rw [wa 14 (by decide), x14]) (fun i _ => by rw [wa 15 (by decide), x15]) (fun j hj => by rw [qs j (by omega) (by omega) (by omega), xs]) (by omega) ⟨FR.trans ⟨fun k _ _ _ _ _ _ _ _ => by rw [xs], hfr.1⟩ hpd.fr.1, by rw [hpd.fr.2, hfr.2]⟩
  have k2 : KW w (stP w k D) := KW.of4 (stP_2 _ _ _ (by decide) (by decide)) (stP_2 _ _ _ (by decide) (by decide))
  refine ⟨D, w, er, hm, q69, by omega, ?_, kww.trans k2, fun i hi => ?_, ?_, ?_, hy0, fun j j7 j9 j10 j14 => by rw [stP_1 _ _ _ j14, qs j j7 j9 j10, xs], by rw [stP_14s, qs 14 (by decide) (by decide) (by decide), xs]⟩
  · rw [zV_congr (stP_2 _ _ _ (by decide) (by decide)), hpd.V, if_pos eD]
  · rw [stP_13, if_neg (by omega), wa 13 (by decide)]
  · have : Uz (stP w k D) = Uz w := Uz_frame (fun j _ _ => stP_1 _ _ _ (by omega))
    omega
  · rw [KC_congr (stP_2 _ _ _ (by decide) (by decide)), hKw]
/-- how many blocks are there -/
def thr (bp : Nat → Nat) : Nat := sm (fun k => if bp k = 0 then 0 else 1) 412
theorem thr_up {bp : Nat → Nat} {k v : Nat} (hk : k < 412) : thr (va_up bp k v) + (if bp k = 0 then 0 else 1) = thr bp + (if v = 0 then 0 else 1) := by
  unfold thr
  have h := sm_up (f := fun k => if bp k = 0 then 0 else 1) (i := k) (v := if v = 0 then 0 else 1) (n := 412) hk
  have e : sm (fun j => if va_up bp k v j = 0 then 0 else 1) 412 = sm (va_up (fun k => if bp k = 0 then 0 else 1) k (if v = 0 then 0 else 1)) 412 := sm_congr (fun j _ => by
    unfold va_up
    by_cases c : j = k
    · rw [if_pos c, if_pos c]
    · rw [if_neg c, if_neg c])
  rw [e]
  exact h
theorem thr_le (bp : Nat → Nat) : thr bp ≤ 412 := by
  have := sm_bnd (f := fun k => if bp k = 0 then 0 else 1) (n := 412) (c := 1) (fun j _ => by split <;> omega)
  unfold thr
  omega
theorem loadBlock_z {FU : Nat} (hF : 140000 < FU) {z : NSt} {b : Nat} (hb : b < 2117) : Fil_loadBlock FU (nI b) (up z) = some (up (if b = 0 then zR z 16 (flN (z.2 16) 0 64 0) else ldZ z 16 b)) := by
  unfold Fil_loadBlock
  by_cases c : b = 0
  · rw [if_pos c, c, if_pos i00, show (0 : Int32) = nI 0 from rfl, fill0_z 16 0 z (by show 64 < FU; omega), Option.bind_some]
    rfl
  · rw [if_neg c, if_neg (ne0_I (by omega) c), Dev_load_g FU z 16 hb (by decide), Option.bind_some]
def lbZ (z : NSt) (b : Nat) : NSt := if b = 0 then zR z 16 (flN (z.2 16) 0 64 0) else ldZ z 16 b
theorem lb_a {z : NSt} {b i : Nat} (hi : i < 64) : (lbZ z b).2 16 i = if b = 0 then 0 else zV z b i := by
  unfold lbZ
  by_cases c : b = 0
  · rw [if_pos c, if_pos c, zR2, if_pos rfl]
    exact if_pos ⟨by omega, hi⟩
  · rw [if_neg c, if_neg c, ld_a hi, zV_W hi]
theorem lb_b {z : NSt} {b c : Nat} (hc : c ≠ 16) : (lbZ z b).2 c = z.2 c := by
  unfold lbZ
  by_cases d : b = 0
  · rw [if_pos d, zR2, if_neg hc]
  · rw [if_neg d, ld_b hc]
theorem lb_1 {z : NSt} {b : Nat} : (lbZ z b).1 = z.1 := by
  unfold lbZ
  by_cases d : b = 0
  · rw [if_pos d]; rfl
  · rw [if_neg d]; rfl
theorem WK.lb {z : NSt} {BP : Nat → Nat → Nat} {T : TRE} {tk : TKS} {PP : Nat → Nat} {ch : List Nat} (h : WK z BP T tk PP ch) (b : Nat) : WK (lbZ z b) BP T tk PP ch := by
  unfold lbZ
  by_cases d : b = 0
  · rw [if_pos d]
    refine h.setR (by decide) (fun i => ?_)
    unfold flN
    split
    · decide
    · exact h.wd 16 (by decide) (by decide) i
  · rw [if_neg d]; exact h.load _ (by decide)
theorem lb_gb {z : NSt} {b k : Nat} (hk : k < 256) : gb (fun j => (lbZ z b).2 16 (0 + j)) k = byB (zV z) b k := by
  unfold byB
  by_cases c : b = 0
  · rw [if_pos c]
    refine gb_0 ?_
    show (lbZ z b).2 16 (0 + k / 4) = 0
    rw [Nat.zero_add, lb_a (by omega), if_pos c]
  · rw [if_neg c]
    refine gb_congr ?_
    show (lbZ z b).2 16 (0 + k / 4) = zV z b (k / 4)
    rw [Nat.zero_add, lb_a (by omega), if_neg c]
theorem cut_gb {f : Nat → Nat} {k : Nat} (hk : k < 256) : gb (cutW f) k = gb f k := gb_congr (cutW_lo (by omega))
theorem byB_keep {z y : NSt} (hk : KW z y) {b i : Nat} (hb : b ≠ 0 → z.2 5 b ≠ 0) : byB (zV y) b i = byB (zV z) b i := by
  unfold byB
  by_cases c : b = 0
  · rw [if_pos c, if_pos c]
  · rw [if_neg c, if_neg c, (hk.1 b (hb c)).2]
