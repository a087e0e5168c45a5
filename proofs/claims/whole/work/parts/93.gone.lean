/-! a file goes as a whole -/
def bpd (z0 : NSt) (f : Nat) (dr : Nat → Bool) (k : Nat) : Nat := if ndK k ≠ 0 ∧ dr (ndK k) = true then 0 else BPL (zV z0) (z0.2 6) f k
def DRS (z z0 : NSt) (R : TRE) (tk : TKS) (PP : Nat → Nat) (ch : List Nat) (f : Nat) (dr : Nat → Bool) : Prop := (WK z (va_up (BPL (zV z0) (z0.2 6)) f (bpd z0 f dr)) R tk PP ch) ∧ (DRP z0 z) ∧ (∀ j, j ≤ 7 → dr j = true → NB (zV z0) (z0.2 6) f j ≠ 0 → z.2 6 (NB (zV z0) (z0.2 6) f j) = 0) ∧ (∀ n, (∀ j, j ≤ 7 → dr j = true → NB (zV z0) (z0.2 6) f j = n → n = 0) → z.2 6 n = z0.2 6 n)
theorem DRS.wk {z z0 : NSt} {R : TRE} {tk : TKS} {PP : Nat → Nat} {ch : List Nat} {f : Nat} {dr : Nat → Bool} (h9 : DRS z z0 R tk PP ch f dr) : WK z (va_up (BPL (zV z0) (z0.2 6)) f (bpd z0 f dr)) R tk PP ch := h9.1
theorem DRS.dp {z z0 : NSt} {R : TRE} {tk : TKS} {PP : Nat → Nat} {ch : List Nat} {f : Nat} {dr : Nat → Bool} (h9 : DRS z z0 R tk PP ch f dr) : DRP z0 z := h9.2.1
theorem DRS.p0 {z z0 : NSt} {R : TRE} {tk : TKS} {PP : Nat → Nat} {ch : List Nat} {f : Nat} {dr : Nat → Bool} (h9 : DRS z z0 R tk PP ch f dr) : ∀ j, j ≤ 7 → dr j = true → NB (zV z0) (z0.2 6) f j ≠ 0 → z.2 6 (NB (zV z0) (z0.2 6) f j) = 0 := h9.2.2.1
theorem DRS.p1 {z z0 : NSt} {R : TRE} {tk : TKS} {PP : Nat → Nat} {ch : List Nat} {f : Nat} {dr : Nat → Bool} (h9 : DRS z z0 R tk PP ch f dr) : ∀ n, (∀ j, j ≤ 7 → dr j = true → NB (zV z0) (z0.2 6) f j = n → n = 0) → z.2 6 n = z0.2 6 n := h9.2.2.2
def drU (dr : Nat → Bool) (j : Nat) (i : Nat) : Bool := if i = j then true else dr i
theorem drU_s (dr : Nat → Bool) (j : Nat) : drU dr j j = true := if_pos rfl
theorem drU_n (dr : Nat → Bool) {j i : Nat} (h : i ≠ j) : drU dr j i = dr i := if_neg h
theorem nd_rng {j k : Nat} (hj : 1 ≤ j) : ndK k = j ↔ 20 + 56 * (j - 1) ≤ k ∧ k < 20 + 56 * (j - 1) + 56 := by
  by_cases c : k < 20
  · rw [ndK_lo c]; omega
  · rw [ndK_hi (by omega)]; omega
theorem BPL_nd {z0 : NSt} {T R : TRE} {tk : TKS} {PP : Nat → Nat} {ch : List Nat} {f : Nat} (h0 : NW z0 T R tk PP ch) (hk : T.kd f = 1) {j i : Nat} (j1 : 1 ≤ j) (j7 : j ≤ 7) (hi : i < 56) : BPL (zV z0) (z0.2 6) f (20 + 56 * (j - 1) + i) = if NB (zV z0) (z0.2 6) f j = 0 then 0 else zV z0 (z0.2 6 (NB (zV z0) (z0.2 6) f j)) i := by
  obtain ⟨g1, g2, g3⟩ := h0.tok.rng f (by omega)
  have hp0 : z0.2 6 f ≠ 0 := fun q => by
    have := (h0.tok.ids f g1 g2).pl.mp q
    omega
  have k0 := ((h0.tok.ids f g1 g2).kd (by omega)).1
  rw [BPL_f hp0 g2 (by rw [k0, hk]; decide) (by omega)]
  unfold bpF
  rw [if_neg (by omega), show 1 + (20 + 56 * (j - 1) + i - 20) / 56 = j by omega, show (20 + 56 * (j - 1) + i - 20) % 56 = i by omega]
theorem dropNd {FU : Nat} (hF : 140000 < FU) {z z0 : NSt} {T R : TRE} {tk : TKS} {PP : Nat → Nat} {ch : List Nat} {f : Nat} (h0 : NW z0 T R tk PP ch) (hk : T.kd f = 1) {dr : Nat → Bool} (h : DRS z z0 R tk PP ch f dr) {j : Nat} (hj : j ≤ 7) (hd : dr j = false) : Ev (Fil_dropWithData FU (nI (NB (zV z0) (z0.2 6) f j)) (up z)) fun r => ∃ x, r = up x ∧ DRS x z0 R tk PP ch f (drU dr j) := by
  obtain ⟨g1, g2, g3⟩ := h0.tok.rng f (by omega)
  have hno := ((h0.tok.ids f g1 g2).fil hk).2.2
  have hV : ∀ b, zV z b = zV z0 b := h.dp.V
  obtain ⟨n, en⟩ : ∃ n, n = NB (zV z0) (z0.2 6) f j := ⟨_, rfl⟩
  have hrw : ∀ k, bpd z0 f (drU dr j) k = if ndK k ≠ 0 ∧ ndK k = j then 0 else bpd z0 f dr k := fun k => by
    unfold bpd
    by_cases c : ndK k = j
    · rw [c, drU_s]
      by_cases d : j ≠ 0
      · rw [if_pos ⟨d, rfl⟩, if_pos ⟨d, rfl⟩]
      · rw [if_neg (fun q => d q.1), if_neg (fun q => d q.1), if_neg (fun q => d q.1)]
    · rw [drU_n dr c, if_neg (show ¬ (ndK k ≠ 0 ∧ ndK k = j) from fun q => c q.2)]
  by_cases c : n = 0
  · rw [← en, c, dropWithData_0 hF h.wk]
    refine Ev.ret ⟨z, rfl, ?_, h.dp, fun i hi q w => ?_, fun m q => ?_⟩
    · have e : bpd z0 f (drU dr j) = bpd z0 f dr := by
        funext k
        rw [hrw k]
        by_cases d : ndK k ≠ 0 ∧ ndK k = j
        · rw [if_pos d]
          unfold bpd
          rw [d.2, hd, if_neg (by simp)]
          have hr := (nd_rng (k := k) (j := j) (by omega)).mp d.2
          have := BPL_nd h0 hk (j := j) (i := k - (20 + 56 * (j - 1))) (by omega) hj (by omega)
          rw [show 20 + 56 * (j - 1) + (k - (20 + 56 * (j - 1))) = k by omega, ← en, if_pos c] at this
          exact this.symm
        · rw [if_neg d]
      rw [e]; exact h.wk
    · by_cases d : i = j
      · rw [d, ← en] at w
        exact absurd c w
      · rw [drU_n dr d] at q
        exact h.p0 i hi q w
    · refine h.p1 m (fun i hi w v => q i hi ?_ v)
      by_cases d : i = j
      · rw [d, drU_s]
      · rw [drU_n dr d]; exact w
  · have hr := hno.rng j hj (by rw [← en]; exact c)
    rw [← en] at hr ⊢
    have hPn : z.2 6 n = z0.2 6 n := h.p1 n (fun i hi q w => by
      have := hno.inj i j hi hj (by rw [w]; exact c) (by rw [w, en])
      rw [this, hd] at q
      exact absurd q (by decide))
    obtain ⟨lvl, el⟩ : ∃ lvl, lvl = (if j = 0 then 2 else 1) := ⟨_, rfl⟩
    have hlv : lvl ≤ 2 ∧ lvl ≠ 0 := by rw [el]; split <;> omega
    have hfr : pFr lvl = 0 := if_neg hlv.2
    have hbl : ∀ k, bpd z0 f dr k < 2117 := fun k => by
      unfold bpd
      split
      · decide
      · by_cases q : BPL (zV z0) (z0.2 6) f k = 0
        · omega
        · exact (h0.wk.tr.rb h0.wk.lg q).2.2.1
    refine (dropWithData_n hF h.wk (n := n) (base := 20 + 56 * (j - 1)) (lvl := lvl) (by omega) hr.2.1 (by rw [hPn]; exact hr.2.2.1) (by rw [hPn, hV, hr.2.2.2.2, el]) hlv.1 (fun i a b => ?_) hbl).mono ?_
    · rw [hfr] at b ⊢
      have j0 : j ≠ 0 := fun q => by
        rw [el, if_pos q] at b
        have : pNo 2 1 = 0 := rfl
        omega
      have hi56 : i < 56 := by
        rw [el, if_neg j0] at b
        have : pNo 1 1 = 56 := rfl
        omega
      rw [hPn, hV, Nat.sub_zero]
      unfold bpd
      have e : ndK (20 + 56 * (j - 1) + i) = j := (nd_rng (by omega)).mpr (by omega)
      rw [e, hd, if_neg (by simp), BPL_nd h0 hk (by omega) hj hi56, ← en, if_neg c]
    · rintro _ ⟨x, rfl, w, d, d6⟩
      refine ⟨x, rfl, ?_, h.dp.trans d, fun i hi q v => ?_, fun m q => ?_⟩
      · have e : zer (bpd z0 f dr) (20 + 56 * (j - 1)) (20 + 56 * (j - 1) + pNo lvl 1) = bpd z0 f (drU dr j) := by
          funext k
          rw [hrw k]
          unfold zer
          by_cases j0 : j = 0
          · have : pNo lvl 1 = 0 := by rw [el, if_pos j0]; rfl
            rw [if_neg (by omega), if_neg (fun q => q.1 (q.2.trans j0))]
          · have e56 : pNo lvl 1 = 56 := by rw [el, if_neg j0]; rfl
            have hn := nd_rng (k := k) (j := j) (by omega)
            by_cases d' : ndK k = j
            · rw [if_pos (by have := hn.mp d'; omega), if_pos ⟨by omega, d'⟩]
            · rw [if_neg (fun q => d' (hn.mpr (by omega))), if_neg (fun q => d' q.2)]
        rw [← e]; exact w
      · rw [d6]
        by_cases d' : i = j
        · rw [d', ← en, va_up_self]
        · rw [drU_n dr d'] at q
          unfold va_up
          split
          · rfl
          · exact h.p0 i hi q v
      · have hm : m ≠ n := fun e => c (by
          have := q j hj (drU_s dr j) (by rw [← en, e])
          omega)
        rw [d6, va_up_ne _ _ hm]
        refine h.p1 m (fun i hi w' v => q i hi ?_ v)
        by_cases d' : i = j
        · rw [d', drU_s]
        · rw [drU_n dr d']; exact w'
/-- all nodes but the inode -/
def drAll (a : Nat) (j : Nat) : Bool := decide (3 ≤ j ∧ j < a)
theorem drop_b30 {FU : Nat} (hF : 140000 < FU) {z0 : NSt} {T R : TRE} {tk : TKS} {PP : Nat → Nat} {ch : List Nat} {f : Nat} (h0 : NW z0 T R tk PP ch) (hk : T.kd f = 1) (hix : NB (zV z0) (z0.2 6) f 0 ≠ 0) (Q : St → Prop) (hq : ∀ z, DRS z z0 R tk PP ch f (drAll 8) → Ev (Fil_drop_b61 FU (nI f) (nI (z0.2 6 f)) (up z)) Q) : ∀ (m i n : Nat) (z : NSt), i + m = 56 → m < n → DRS z z0 R tk PP ch f (drAll (if i < 5 then 3 + i else 8)) → Ev (Fil_drop_b30 FU n (nI f) (nI (z0.2 6 f)) (nI (z0.2 6 (NB (zV z0) (z0.2 6) f 0))) (nI i) (up z)) Q := by
  obtain ⟨g1, g2, g3⟩ := h0.tok.rng f (by omega)
  have hno := ((h0.tok.ids f g1 g2).fil hk).2.2
  have hr := hno.rng 0 (by omega) hix
  have hpb := h0.wk.pb (NB (zV z0) (z0.2 6) f 0)
  intro m
  induction m with
  | zero =>
    intro i n z e1 e2 h
    obtain ⟨n, rfl⟩ : ∃ q9, n = q9 + 1 := ⟨n - 1, by omega⟩
    have e1 : i = 56 := e1
    subst e1
    unfold Fil_drop_b30
    rw [if_neg (ne0_I (by omega) hr.2.2.1), if_pos (show (56 : Int32) ≤ nI 56 from nI_le (Nat.le_refl 56) (by decide))]
    exact hq z h
  | succ m ih =>
    intro i n z e1 e2 h
    obtain ⟨n, rfl⟩ : ∃ q9, n = q9 + 1 := ⟨n - 1, by omega⟩
    have hw : zW z (z0.2 6 (NB (zV z0) (z0.2 6) f 0)) i = zV z0 (z0.2 6 (NB (zV z0) (z0.2 6) f 0)) i := by rw [← zV_W (by omega), h.dp.V]
    unfold Fil_drop_b30
    rw [if_neg (ne0_I (by omega) hr.2.2.1), show (56 : Int32) = nI 56 from rfl, if_neg (nI_ge (by omega) (by decide)), Dev_word_e FU z hpb (by omega), Option.bind_some, hw, nI_1]
    by_cases c : i < 5
    · have en : zV z0 (z0.2 6 (NB (zV z0) (z0.2 6) f 0)) i = NB (zV z0) (z0.2 6) f (3 + i) := by
        have e0 : NB (zV z0) (z0.2 6) f 0 = zV z0 (z0.2 6 f) 28 := rfl
        rw [e0] at hix ⊢
        unfold NB
        rw [if_neg (by omega), if_neg (by omega), if_neg hix, show 3 + i - 3 = i by omega]
      rw [if_pos c] at h
      rw [en]
      refine (dropNd hF h0 hk h (j := 3 + i) (by omega) ?_).bd ?_
      · unfold drAll
        exact decide_eq_false (by omega)
      · rintro _ ⟨x, rfl, hx⟩
        refine ih (i + 1) n x (by omega) (by omega) ?_
        have e : drU (drAll (3 + i)) (3 + i) = drAll (if i + 1 < 5 then 3 + (i + 1) else 8) := by
          funext j
          unfold drU drAll
          by_cases d : j = 3 + i
          · rw [if_pos d]
            exact (decide_eq_true (by split <;> omega)).symm
          · rw [if_neg d]
            exact decide_eq_decide.mpr (by split <;> omega)
        rw [← e]; exact hx
    · rw [if_neg c] at h
      rw [(hno.ixz hix).1 i (by omega) (by omega), dropWithData_0 hF h.wk, Option.bind_some]
      exact ih (i + 1) n z (by omega) (by omega) (by rw [if_neg (by omega)]; exact h)
theorem drop_s {FU : Nat} (hF : 140000 < FU) {z0 : NSt} {T R : TRE} {tk : TKS} {PP : Nat → Nat} {ch : List Nat} {f : Nat} (h0 : NW z0 T R tk PP ch) (hk : T.kd f = 1) :
    Ev (Fil_drop FU (nI f) (up z0)) fun r => ∃ y, r = up y ∧ NW y (T.wKd (va_up T.kd f 0)) R tk PP ch ∧ FR z0 y ∧ y.2 8 = va_up (z0.2 8) f 1 ∧ Uz y = Uz z0 ∧ KC y = KC z0 := by
  obtain ⟨g1, g2, g3⟩ := h0.tok.rng f (by omega)
  have hi := h0.tok.ids f g1 g2
  have hno := (hi.fil hk).2.2
  have hp0 : z0.2 6 f ≠ 0 := fun q => by
    have := hi.pl.mp q
    omega
  obtain ⟨k0, k58, k61⟩ := hi.kd (by omega)
  have hpb := h0.wk.pb f
  -- the rest, once the nodes under the indirect one are gone
  have rest : ∀ z, DRS z z0 R tk PP ch f (drAll 8) → Ev (Fil_drop_b61 FU (nI f) (nI (z0.2 6 f)) (up z)) fun r => ∃ y, r = up y ∧ NW y (T.wKd (va_up T.kd f 0)) R tk PP ch ∧ FR z0 y ∧ y.2 8 = va_up (z0.2 8) f 1 ∧ Uz y = Uz z0 ∧ KC y = KC z0 := by
    intro z h
    unfold Fil_drop_b61
    obtain ⟨FU', rfl⟩ : ∃ q, FU = q + 4 := ⟨FU - 4, by omega⟩
    have wd : ∀ (x : NSt), DRP z0 x → ∀ i, i < 64 → Dev_word (FU' + 4) (nI (z0.2 6 f)) (nI i) (up x) = some (nI (zV z0 (z0.2 6 f) i)) := fun x hx i hi' => by
      rw [Dev_word_e _ x hpb hi', ← zV_W hi', hx.V]
    unfold Fil_drop_b65
    rw [if_neg (show ¬ (28 : Int32) < 26 by decide), show (26 : Int32) = nI 26 from rfl, wd z h.dp 26 (by decide), Option.bind_some]
    have n1 : zV z0 (z0.2 6 f) 26 = NB (zV z0) (z0.2 6) f 1 := rfl
    have n2 : zV z0 (z0.2 6 f) 27 = NB (zV z0) (z0.2 6) f 2 := rfl
    have n0 : zV z0 (z0.2 6 f) 28 = NB (zV z0) (z0.2 6) f 0 := rfl
    rw [n1]
    refine (dropNd hF h0 hk h (j := 1) (by omega) rfl).bd ?_
    rintro _ ⟨x1, rfl, h1⟩
    rw [nI_1]
    unfold Fil_drop_b65
    rw [if_neg (show ¬ (28 : Int32) < nI 27 by decide), wd x1 h1.dp 27 (by decide), Option.bind_some, n2]
    refine (dropNd hF h0 hk h1 (j := 2) (by omega) rfl).bd ?_
    rintro _ ⟨x2, rfl, h2⟩
    rw [nI_1]
    unfold Fil_drop_b65
    rw [if_neg (show ¬ (28 : Int32) < nI 28 by decide), wd x2 h2.dp 28 (by decide), Option.bind_some, n0]
    refine (dropNd hF h0 hk h2 (j := 0) (by omega) rfl).bd ?_
    rintro _ ⟨x3, rfl, h3⟩
    rw [nI_1]
    unfold Fil_drop_b65
    rw [if_pos (show (28 : Int32) < nI 29 by decide)]
    have hall : ∀ j, j ≤ 7 → drU (drU (drU (drAll 8) 1) 2) 0 j = true := fun j hj => by
      unfold drU drAll
      by_cases a : j = 0
      · rw [if_pos a]
      · rw [if_neg a]
        by_cases b : j = 2
        · rw [if_pos b]
        · rw [if_neg b]
          by_cases c : j = 1
          · rw [if_pos c]
          · rw [if_neg c]
            exact decide_eq_true (by omega)
    obtain ⟨dr, edr⟩ : ∃ dr, dr = drU (drU (drU (drAll 8) 1) 2) 0 := ⟨_, rfl⟩
    rw [← edr] at h3 hall
    have hPf : x3.2 6 f = z0.2 6 f := h3.p1 f (fun j hj q w => by
      refine Classical.byContradiction (fun v => ?_)
      have := (hno.rng j hj (by rw [w]; exact v)).1
      omega)
    have hbd : ∀ k, bpd z0 f dr k = if k < 20 then zV z0 (z0.2 6 f) (6 + k) else 0 := fun k => by
      unfold bpd
      by_cases c : k < 20
      · rw [ndK_lo c, if_neg (fun q => q.1 rfl), if_pos c, BPL_f hp0 g2 (by rw [k0, hk]; decide) (by omega)]
        unfold bpF
        rw [if_pos c]
      · rw [if_neg c]
        by_cases d : k < 412
        · have e := ndK_hi (k := k) (by omega)
          rw [if_pos ⟨by omega, hall _ (by omega)⟩]
        · split
          · rfl
          · unfold BPL
            rw [if_neg (by omega), if_neg (by rw [k0, hk]; decide), if_neg d]
    have hbl : ∀ k, bpd z0 f dr k < 2117 := fun k => by
      unfold bpd
      split
      · decide
      · by_cases q : BPL (zV z0) (z0.2 6) f k = 0
        · omega
        · exact (h0.wk.tr.rb h0.wk.lg q).2.2.1
    refine Ev.bd (dropWithData_n hF h3.wk (n := f) (base := 0) (lvl := 0) g1 (by omega) (by rw [hPf]; exact hp0) (by rw [hPf, h3.dp.V, k58]) (by decide) (fun i a b => ?_) hbl) ?_
    · have a : 6 ≤ i := a
      have b : i < 6 + 20 := b
      show zV x3 (x3.2 6 f) i = bpd z0 f dr (0 + (i - 6))
      rw [hPf, h3.dp.V, hbd, if_pos (by omega), show 6 + (0 + (i - 6)) = i by omega]
    · rintro _ ⟨y, rfl, w, d, d6⟩
      have hbz : zer (bpd z0 f dr) 0 (0 + pNo 0 1) = fun _ => 0 := by
        funext k
        unfold zer
        have e20 : pNo 0 1 = 20 := rfl
        by_cases c : k < 20
        · rw [if_pos (by omega)]
        · rw [if_neg (by omega), hbd, if_neg c]
      rw [hbz] at w
      have dy : DRP z0 y := h3.dp.trans d
      rw [Tab_stir_z _ y (by omega), Option.bind_some]
      have hy6f : y.2 6 f = 0 := by rw [d6, va_up_self]
      have hy6 : ∀ n, n ≠ f → y.2 6 n = x3.2 6 n := fun n q => by rw [d6, va_up_ne _ _ q]
      have hx3id : ∀ n, n ≤ 250 → x3.2 6 n = z0.2 6 n := fun n hn => h3.p1 n (fun j hj q v => by
        refine Classical.byContradiction (fun v' => ?_)
        have := (hno.rng j hj (by rw [v]; exact v')).1
        omega)
      have hsame : ∀ i, i ≠ f → 1 ≤ i → i ≤ 250 → z0.2 6 i ≠ 0 → SAME (zV z0) (zV y) (z0.2 6) (y.2 6) i := fun i q v1 v2 v3 => by
        have hi' := h0.tok.ids i v1 v2
        have hk' : T.kd i ≠ 0 := fun w' => v3 (hi'.pl.mpr w')
        refine ⟨by rw [hy6 i q, hx3id i v2], dy.V _, fun w' j hj v => ⟨?_, dy.V _⟩⟩
        rw [(hi'.kd hk').1] at w'
        have h3' := (h0.tok.rng i hk').2.2
        have hr := (hi'.fil (by omega)).2.2.rng j hj v
        rw [hy6 _ (by omega)]
        refine h3.p1 _ (fun j' hj' _ w2 => ?_)
        refine Classical.byContradiction (fun v' => ?_)
        have hr2 := hno.rng j' hj' (by rw [w2]; exact v')
        rw [w2, hr.2.2.2.1] at hr2
        exact q hr2.2.2.2.1
      have hbp : ∀ i k, BPL (zV y) (y.2 6) i k = va_up (BPL (zV z0) (z0.2 6)) f (fun _ => 0) i k := fun i k => by
        by_cases q : i = f
        · rw [q, va_up_self, BPL_0 (Or.inl hy6f)]
        · rw [va_up_ne _ _ q]
          by_cases c : z0.2 6 i = 0 ∨ 250 < i
          · rw [BPL_0 c]
            by_cases c2 : 250 < i
            · rw [BPL_0 (Or.inr c2)]
            · rw [BPL_0 (Or.inl (by rw [hy6 i q, hx3id i (by omega)]; omega))]
          · have c1 : i ≠ 0 := fun w' => c (Or.inl (by rw [w']; exact h0.p0))
            exact (hsame i q (by omega) (by omega) (fun w' => c (Or.inl w'))).bpl k
      have ebp : va_up (BPL (zV z0) (z0.2 6)) f (fun _ => 0) = BPL (zV y) (y.2 6) := by
        funext i k
        exact (hbp i k).symm
      rw [ebp] at w
      have hnw : NW y (T.wKd (va_up T.kd f 0)) R tk PP ch := by
        refine ⟨w, ⟨fun i q => ?_, fun i v1 v2 => ?_⟩, fun n n1 n2 => ?_⟩
        · have q : va_up T.kd f 0 i ≠ 0 := q
          by_cases c : i = f
          · rw [c, va_up_self] at q; exact absurd rfl q
          · rw [va_up_ne _ _ c] at q
            have := h0.tok.rng i q
            refine ⟨this.1, this.2.1, ?_⟩
            show va_up T.kd f 0 i = 1 ∨ va_up T.kd f 0 i = 2
            rw [va_up_ne _ _ c]; exact this.2.2
        · by_cases c : i = f
          · rw [c]
            have t0 : (T.wKd (va_up T.kd f 0)).kd f = 0 := va_up_self _ _ _
            refine ⟨⟨fun _ => t0, fun _ => hy6f⟩, fun q => absurd t0 q, fun q => ?_, fun q => ?_, fun _ n => hi.noe (by omega) n⟩
            · rw [t0] at q; omega
            · rw [t0] at q; omega
          · exact (h0.tok.ids i v1 v2).same v2 ⟨va_up_ne _ _ c, rfl, rfl, rfl, rfl⟩ (hsame i c v1 v2) (fun q => by rw [hy6 i c, hx3id i v2]; exact q) (fun k _ => dy.V _)
        · have hnf : n ≠ f := by omega
          rw [hy6 n hnf] at n2
          have hz0n : z0.2 6 n ≠ 0 := by
            intro q
            have hle : ∀ j, j ≤ 7 → dr j = true → NB (zV z0) (z0.2 6) f j = n → n = 0 := fun j hj _ v => by
              refine Classical.byContradiction (fun v' => ?_)
              exact (hno.rng j hj (by rw [v]; exact v')).2.2.1 (by rw [v]; exact q)
            rw [h3.p1 n hle] at n2
            exact n2 q
          obtain ⟨i, j, l1, l2, l3⟩ := h0.led n n1 hz0n
          obtain ⟨q1, q2, q3⟩ := h0.tok.rng i (by omega)
          by_cases c : i = f
          · exfalso
            rw [c] at l3
            have := h3.p0 j l2 (hall j l2) (by omega)
            rw [l3] at this
            exact n2 this
          · have hpi : z0.2 6 i ≠ 0 := fun w' => by
              have := (h0.tok.ids i q1 q2).pl.mp w'
              omega
            refine ⟨i, j, ?_, l2, ?_⟩
            · show va_up T.kd f 0 i = 1
              rw [va_up_ne _ _ c]; exact l1
            · rw [(hsame i c q1 q2 hpi).nb (by rw [((h0.tok.ids i q1 q2).kd (by omega)).1]; omega), l3]
      have hfy : FR z0 y := ⟨fun k _ _ _ _ _ _ _ _ => by rw [dy.1], fun c hc => dy.2 c (by omega) (by omega) (by omega) (by omega)⟩
      refine Ev.ret ⟨stirZ f y, rfl, hnw.stir g1 g2, hfy.stir g1 g2, ?_, ?_, ?_⟩
      · rw [(stir_8 g1 g2).1, dy.2 8 (by decide) (by decide) (by decide) (by decide)]
      · exact Uz_frame (fun k _ _ => by rw [(stir_8 g1 g2).2.1, dy.1])
      · refine KC_congr ?_
        rw [(stir_8 g1 g2).2.2 7 (by decide), dy.2 7 (by decide) (by decide) (by decide) (by decide)]
  unfold Fil_drop
  rw [Tab_placeOf_z FU z0 (by omega), Option.bind_some, plZ_in g1 (by omega), show (28 : Int32) = nI 28 from rfl, Dev_word_e FU z0 hpb (by decide), Option.bind_some, ← zV_W (by decide)]
  have e28 : zV z0 (z0.2 6 f) 28 = NB (zV z0) (z0.2 6) f 0 := rfl
  rw [e28]
  have hw0 : WK z0 (va_up (BPL (zV z0) (z0.2 6)) f (bpd z0 f (drAll 3))) R tk PP ch := by
    have e : bpd z0 f (drAll 3) = BPL (zV z0) (z0.2 6) f := by
      funext k
      unfold bpd drAll
      rw [decide_eq_false (by omega), if_neg (by simp)]
    rw [e, up_id]; exact h0.wk
  by_cases c : NB (zV z0) (z0.2 6) f 0 = 0
  · rw [c, Tab_placeOf_z FU z0 (by omega), Option.bind_some, show plZ z0 0 = 0 from if_neg (by omega)]
    obtain ⟨FU', rfl⟩ : ∃ q, FU = q + 1 := ⟨FU - 1, by omega⟩
    unfold Fil_drop_b30
    rw [if_pos i00]
    have hz : ∀ j, 3 ≤ j → NB (zV z0) (z0.2 6) f j = 0 := fun j hj => by
      have c : zV z0 (z0.2 6 f) 28 = 0 := c
      unfold NB
      rw [if_neg (by omega), if_neg (by omega), if_pos c]
    refine rest z0 ⟨?_, DRP.rf z0, fun j hj q w => ?_, fun n _ => rfl⟩
    · have e : bpd z0 f (drAll 8) = BPL (zV z0) (z0.2 6) f := by
        funext k
        unfold bpd
        by_cases d : ndK k ≠ 0 ∧ drAll 8 (ndK k) = true
        · rw [if_pos d]
          have d2 := of_decide_eq_true d.2
          have hr := (nd_rng (k := k) (j := ndK k) (by omega)).mp rfl
          have := BPL_nd h0 hk (j := ndK k) (i := k - (20 + 56 * (ndK k - 1))) (by omega) (by omega) (by omega)
          rw [show 20 + 56 * (ndK k - 1) + (k - (20 + 56 * (ndK k - 1))) = k by omega, if_pos (hz _ d2.1)] at this
          exact this.symm
        · rw [if_neg d]
      rw [e, up_id]; exact h0.wk
    · have q := of_decide_eq_true q
      exact absurd (hz j q.1) w
  · have hr := hno.rng 0 (by omega) c
    rw [Tab_placeOf_z FU z0 (by omega), Option.bind_some, plZ_in (by omega) hr.2.1]
    refine drop_b30 hF h0 hk c _ rest 56 0 FU z0 (by omega) (by omega) ?_
    rw [if_pos (by decide)]
    exact ⟨hw0, DRP.rf z0, fun j hj q _ => by have q := of_decide_eq_true q; omega, fun n _ => rfl⟩
