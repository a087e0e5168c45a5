/-! files and directories go -/
def TRE.wKd (T : TRE) (x : Nat → Nat) : TRE := (x, T.2)
def zer (bp : Nat → Nat) (lo hi : Nat) (k : Nat) : Nat := if lo ≤ k ∧ k < hi then 0 else bp k
theorem zer_e (bp : Nat → Nat) (lo : Nat) : zer bp lo lo = bp := by
  funext k
  exact if_neg (by omega)
theorem zer_s (bp : Nat → Nat) {lo hi : Nat} (h : lo ≤ hi) : va_up (zer bp lo hi) hi 0 = zer bp lo (hi + 1) := by
  funext k
  unfold va_up zer
  by_cases c : k = hi
  · rw [if_pos c, if_pos (by omega)]
  · rw [if_neg c]
    by_cases d : lo ≤ k ∧ k < hi
    · rw [if_pos d, if_pos (by omega)]
    · rw [if_neg d, if_neg (by omega)]
/-- what dropping leaves as it is -/
def DRP (z y : NSt) : Prop := y.1 = z.1 ∧ ∀ c, c ≠ 6 → c ≠ 9 → c ≠ 10 → c ≠ 11 → y.2 c = z.2 c
theorem DRP.rf (z : NSt) : DRP z z := ⟨rfl, fun _ _ _ _ _ => rfl⟩
theorem DRP.trans {x y z : NSt} (h : DRP x y) (g : DRP y z) : DRP x z := ⟨by rw [g.1, h.1], fun c a b d e => by rw [g.2 c a b d e, h.2 c a b d e]⟩
theorem DRP.drp (z : NSt) (p : Nat) : DRP z (drpZ p z) := ⟨drp_1 _ _, fun c _ a b d => drp_2 _ _ a b d⟩
theorem DRP.gone (z : NSt) (p n : Nat) : DRP z (zA (drpZ p z) 6 n 0) := ⟨by rw [zA1, drp_1], fun c c6 a b d => by rw [zA2, if_neg c6, drp_2 _ _ a b d]⟩
theorem DRP.V {z y : NSt} (h : DRP z y) (b : Nat) : zV y b = zV z b := zV_congr (h.2 4 (by decide) (by decide) (by decide) (by decide)) b
theorem dwd_b (FU : Nat) {F : Nat → Nat → Nat} {R : TRE} {tk : TKS} {PP : Nat → Nat} {ch : List Nat} {f n p fr base : Nat} {bp : Nat → Nat} (hn1 : 1 ≤ n) (hn2 : n < 2048) (hp : p < 2117) {hi : Nat} (hh : hi ≤ 64) {z : NSt} (hw : ∀ i, fr ≤ i → i < hi → zV z p i = bp (base + (i - fr))) (hb : ∀ k, bp k < 2117) : ∀ (m i q : Nat) (y : NSt), i + m = hi → m < q → fr ≤ i → WK y (va_up F f (zer bp base (base + (i - fr)))) R tk PP ch → DRP z y → y.2 6 = z.2 6 → Ev (Fil_dropWithData_b49 FU q (nI n) (nI p) (nI hi) (nI i) (up y)) fun r => ∃ x, r = up x ∧ WK x (va_up F f (zer bp base (base + (hi - fr)))) R tk PP ch ∧ DRP z x ∧ x.2 6 = va_up (z.2 6) n 0 := by
  intro m
  induction m with
  | zero =>
    intro i q y e1 e2 e3 w d d6
    obtain ⟨q, rfl⟩ : ∃ q9, q = q9 + 1 := ⟨q - 1, by omega⟩
    have e1 : i = hi := e1
    subst e1
    unfold Fil_dropWithData_b49
    rw [if_pos (nI_le (Nat.le_refl _) (by omega)), dropNode_z FU w.lg w.pb hn1 hn2, Option.bind_some]
    refine Ev.ret ⟨_, rfl, w.gone n, d.trans (DRP.gone _ _ _), ?_⟩
    rw [zA2, if_pos rfl, drp_2 _ _ (by decide) (by decide) (by decide), d6]
  | succ m ih =>
    intro i q y e1 e2 e3 w d d6
    obtain ⟨q, rfl⟩ : ∃ q9, q = q9 + 1 := ⟨q - 1, by omega⟩
    unfold Fil_dropWithData_b49
    have hv : zW y p i = bp (base + (i - fr)) := by rw [← zV_W (by omega), d.V, hw i e3 (by omega)]
    have hz : zer bp base (base + (i - fr)) (base + (i - fr)) = bp (base + (i - fr)) := if_neg (by omega)
    have hbb := hb (base + (i - fr))
    rw [if_neg (nI_ge (by omega) (by omega)), Dev_word_e FU y hp (by omega), Option.bind_some, hv, Log_drop_g FU w.lg (by omega), Option.bind_some, nI_1]
    have w2 := w.drop' (base + (i - fr))
    rw [hz, zer_s _ (by omega), show base + (i - fr) + 1 = base + (i + 1 - fr) by omega] at w2
    exact ih (i + 1) q _ (by omega) (by omega) (by omega) w2 (d.trans (DRP.drp _ _)) (by rw [drp_2 _ _ (by decide) (by decide) (by decide), d6])
theorem dropWithData_0 {FU : Nat} (hF : 140000 < FU) {z : NSt} {BP : Nat → Nat → Nat} {R : TRE} {tk : TKS} {PP : Nat → Nat} {ch : List Nat} (h : WK z BP R tk PP ch) : Fil_dropWithData FU (nI 0) (up z) = some (up z) := by
  unfold Fil_dropWithData
  have e : plZ z 0 = 0 := if_neg (by omega)
  rw [Tab_placeOf_z FU z (by omega), Option.bind_some, e, show (58 : Int32) = nI 58 from rfl, Dev_word_e FU z (by decide) (by decide), Option.bind_some]
  obtain ⟨FU, rfl⟩ : ∃ q, FU = q + 1 := ⟨FU - 1, by omega⟩
  have key : ∀ v : Nat, v < 2 ^ 31 → Fil_dropWithData_b43 (FU + 1) (nI 0) (nI 0) (nI v) (nI v) (up z) = some (up z) := by
    intro v hv
    unfold Fil_dropWithData_b43 Fil_dropWithData_b49
    rw [if_pos (nI_le (Nat.le_refl _) hv), dropNode_0 _ h.lg, Option.bind_some]
  unfold FF_pointersFrom
  by_cases c : nI (zW z 0 58) = 0
  · rw [if_pos c, Option.bind_some, if_pos i00]
    exact key 6 (by decide)
  · rw [if_neg c, Option.bind_some, if_pos i00]
    exact key 0 (by decide)
theorem dropWithData_n {FU : Nat} (hF : 140000 < FU) {z : NSt} {F : Nat → Nat → Nat} {R : TRE} {tk : TKS} {PP : Nat → Nat} {ch : List Nat} {f n base : Nat} {bp : Nat → Nat} (h : WK z (va_up F f bp) R tk PP ch) (hn1 : 1 ≤ n) (hn2 : n < 2048) (hp0 : z.2 6 n ≠ 0) {lvl : Nat} (hl : zV z (z.2 6 n) 58 = lvl) (hlv : lvl ≤ 2) (hw : ∀ i, pFr lvl ≤ i → i < pFr lvl + pNo lvl 1 → zV z (z.2 6 n) i = bp (base + (i - pFr lvl))) (hb : ∀ k, bp k < 2117) :
    Ev (Fil_dropWithData FU (nI n) (up z)) fun r => ∃ x, r = up x ∧ WK x (va_up F f (zer bp base (base + pNo lvl 1))) R tk PP ch ∧ DRP z x ∧ x.2 6 = va_up (z.2 6) n 0 := by
  have hpb := h.pb n
  unfold Fil_dropWithData
  rw [Tab_placeOf_z FU z (by omega), Option.bind_some, plZ_in hn1 hn2, show (58 : Int32) = nI 58 from rfl, Dev_word_e FU z hpb (by decide), Option.bind_some, ← zV_W (by decide), hl]
  have e1 : FF_pointersFrom FU (nI lvl) (up z) = some (nI (pFr lvl)) := by
    unfold FF_pointersFrom pFr
    by_cases c : lvl = 0
    · rw [if_pos c, c, if_pos i00]; rfl
    · rw [if_neg c, if_neg (ne0_I (by omega) c)]; rfl
  have e2 : FF_pointersIn FU (nI lvl) (1 : Int32) (up z) = some (nI (pNo lvl 1)) := by
    unfold FF_pointersIn pNo
    by_cases c : lvl = 0
    · rw [if_pos c, c, if_pos i00, if_neg (by decide), if_neg (by decide)]; rfl
    · rw [if_neg c, if_neg (ne0_I (by omega) c)]
      by_cases d : lvl = 1
      · rw [if_pos d, d, if_pos i11]; rfl
      · have d2 : lvl = 2 := by omega
        rw [if_neg d, d2, if_neg (by decide)]; rfl
  rw [e1, Option.bind_some, if_neg (ne0_I (by omega) hp0), e2, Option.bind_some, nI_add]
  unfold Fil_dropWithData_b43
  have hq : pFr lvl + pNo lvl 1 ≤ 64 := by
    unfold pFr pNo
    by_cases c : lvl = 0
    · rw [if_pos c, if_pos c, if_neg (by decide)]; decide
    · rw [if_neg c, if_neg c]
      split <;> omega
  refine (dwd_b FU (F := F) (f := f) (fr := pFr lvl) (base := base) (bp := bp) hn1 hn2 hpb hq hw hb (pNo lvl 1) (pFr lvl) FU z (by omega) (by omega) (Nat.le_refl _) (by rw [Nat.sub_self, Nat.add_zero, zer_e]; exact h) (DRP.rf z) rfl).mono ?_
  rintro _ ⟨x, rfl, w, d, d6⟩
  rw [show base + (pFr lvl + pNo lvl 1 - pFr lvl) = base + pNo lvl 1 by omega] at w
  exact ⟨x, rfl, w, d, d6⟩
