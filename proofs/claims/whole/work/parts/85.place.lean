/-! a file's blocks are placed -/
theorem placeOf_z (FU : Nat) {z z0 : NSt} {R : TRE} {tk : TKS} {PP : Nat → Nat} {ch : List Nat} {id : Nat} {bp : Nat → Nat} (h : MID z z0 R tk PP ch id bp) {k : Nat} (hk : k < 412) (hop : 20 ≤ k → z.1 13 = ndK k) : Fil_placeOf FU (nI k) (up z) = some (nI (bp k)) := by
  unfold Fil_placeOf
  by_cases c : 20 ≤ k
  · have ho := hop c
    unfold ndK at ho
    rw [if_neg (by omega)] at ho
    have hb := h.bo (by omega) ((k - 20) % 56) (Nat.mod_lt _ (by decide))
    rw [ho, show 20 + 56 * (1 + (k - 20) / 56 - 1) + (k - 20) % 56 = k by omega] at hb
    rw [show (20 : Int32) = nI 20 from rfl, if_pos (nI_le c (by omega)), pk_sub c, show (56 : Int32) = nI 56 from rfl, pk_rem (by omega) (by decide) (by decide), rdA_z z 15 (by omega) (by decide), Option.bind_some, hb]
  · rw [show (20 : Int32) = nI 20 from rfl, if_neg (nI_ge (by omega) (by decide)), if_pos (nI_pos' (by omega)), show (6 : Int32) + nI k = nI (6 + k) from nI_add 6 k, rdA_z z 13 (by omega) (by decide), Option.bind_some, h.mc.b0 k (by omega)]
def stP (x : NSt) (k v : Nat) : NSt := if 20 ≤ k then zI (zA x 15 ((k - 20) % 56) v) 14 1 else zA x 13 (6 + k) v
theorem setPlace_z (FU : Nat) (x : NSt) {k v : Nat} (hk : k < 412) : Fil_setPlace FU (nI k) (nI v) (up x) = some (up (stP x k v)) := by
  unfold Fil_setPlace stP
  by_cases c : 20 ≤ k
  · rw [if_pos c, show (20 : Int32) = nI 20 from rfl, if_pos (nI_le c (by omega)), pk_sub c, show (56 : Int32) = nI 56 from rfl, pk_rem (by omega) (by decide) (by decide), wrA_z x 15 (by omega) (by decide), Option.bind_some, nx_eq, show (1 : Int32) = nI 1 from rfl, up_I]
  · rw [if_neg c, show (20 : Int32) = nI 20 from rfl, if_neg (nI_ge (by omega) (by decide)), show (6 : Int32) + nI k = nI (6 + k) from nI_add 6 k, wrA_z x 13 (by omega) (by decide), Option.bind_some]
theorem stP_2 (x : NSt) (k v : Nat) {c : Nat} (h13 : c ≠ 13) (h15 : c ≠ 15) : (stP x k v).2 c = x.2 c := by
  unfold stP
  split
  · rw [zI2, zA2, if_neg h15]
  · rw [zA2, if_neg h13]
theorem stP_1 (x : NSt) (k v : Nat) {j : Nat} (h14 : j ≠ 14) : (stP x k v).1 j = x.1 j := by
  unfold stP
  split
  · rw [zI1, if_neg h14]; rfl
  · rfl
theorem stP_13 (x : NSt) (k v i : Nat) : (stP x k v).2 13 i = if k < 20 ∧ i = 6 + k then v else x.2 13 i := by
  unfold stP
  by_cases c : 20 ≤ k
  · rw [if_pos c, zI2, zA2, if_neg (by decide), if_neg (by omega)]
  · rw [if_neg c, zA2, if_pos rfl]
    unfold va_up
    by_cases d : i = 6 + k
    · rw [if_pos d, if_pos ⟨by omega, d⟩]
    · rw [if_neg d, if_neg (fun q => d q.2)]
theorem stP_15 (x : NSt) (k v i : Nat) : (stP x k v).2 15 i = if 20 ≤ k ∧ i = (k - 20) % 56 then v else x.2 15 i := by
  unfold stP
  by_cases c : 20 ≤ k
  · rw [if_pos c, zI2, zA2, if_pos rfl]
    unfold va_up
    by_cases d : i = (k - 20) % 56
    · rw [if_pos d, if_pos ⟨c, d⟩]
    · rw [if_neg d, if_neg (fun q => d q.2)]
  · rw [if_neg c, zA2, if_neg (by decide), if_neg (by omega)]
theorem stP_14s (x : NSt) (k v : Nat) : (stP x k v).1 14 = if 20 ≤ k then 1 else x.1 14 := by
  unfold stP
  by_cases c : 20 ≤ k
  · rw [if_pos c, if_pos c, zI1, if_pos rfl]
  · rw [if_neg c, if_neg c]; rfl
theorem MID.set {z x z0 : NSt} {R : TRE} {tk : TKS} {PP : Nat → Nat} {ch : List Nat} {id : Nat} {bp : Nat → Nat} (h : MID z z0 R tk PP ch id bp) {k v : Nat} (hk : k < 412) (hop : 20 ≤ k → z.1 13 = ndK k) (hv : v < 2 ^ 32) (wx : WK x (va_up (BPL (zV z0) (z0.2 6)) id (va_up bp k v)) R tk PP ch) (kw : KW z x) (x6 : x.2 6 = z.2 6) (xI : ∀ i, i = 0 ∨ (6 ≤ i ∧ i < 29) ∨ i = 58 ∨ i = 61 → x.2 13 i = z.2 13 i) (x14 : x.2 14 = z.2 14) (x15 : ∀ i, i < 56 → x.2 15 i = z.2 15 i) (xs : ∀ j, j = 12 ∨ j = 13 ∨ j = 14 ∨ j = 15 → x.1 j = z.1 j) (hkc : KC x + Uz x ≤ KC z + Uz z) (hfr : FR z x ∧ x.2 8 = z.2 8) : MID (stP x k v) z0 R tk PP ch id (va_up bp k v) := by
  obtain ⟨y, ey⟩ : ∃ y, y = stP x k v := ⟨_, rfl⟩
  have y2 : ∀ c, c ≠ 13 → c ≠ 15 → y.2 c = x.2 c := fun c a b => by rw [ey, stP_2 _ _ _ a b]
  have y1 : ∀ j, j ≠ 14 → y.1 j = x.1 j := fun j a => by rw [ey, stP_1 _ _ _ a]
  have y13 : ∀ i, y.2 13 i = if k < 20 ∧ i = 6 + k then v else x.2 13 i := fun i => by rw [ey, stP_13]
  have y15 : ∀ i, y.2 15 i = if 20 ≤ k ∧ i = (k - 20) % 56 then v else x.2 15 i := fun i => by rw [ey, stP_15]
  have y14s : y.1 14 = if 20 ≤ k then 1 else z.1 14 := by rw [ey, stP_14s, xs 14 (by omega)]
  rw [← ey]
  have hmc := h.mc
  have y13' : ∀ i, 26 ≤ i → i < 29 → y.2 13 i = z.2 13 i := fun i a b => by
    rw [y13, if_neg (show ¬ (k < 20 ∧ i = 6 + k) by omega), xI i (by omega)]
  have hnu : ∀ j, j ≤ 7 → nuI y j = nuI z j := fun j hj => by
    by_cases c0 : j = 0
    · rw [c0]
      exact y13' 28 (by decide) (by decide)
    · by_cases c3 : j < 3
      · rw [nuI_lo (by omega) c3, nuI_lo (by omega) c3, y13' _ (by omega) (by omega)]
      · rw [nuI_hi (by omega), nuI_hi (by omega), y2 14 (by decide) (by decide), x14]
  have y6 : y.2 6 = z.2 6 := by rw [y2 6 (by decide) (by decide), x6]
  have kwy : KW z y := kw.trans (KW.of4 (y2 4 (by decide) (by decide)) (y2 5 (by decide) (by decide)))
  have zk : ∀ n, z.2 6 n ≠ 0 → zV y (z.2 6 n) = zV z (z.2 6 n) := fun n q => (kwy.1 _ (by rw [(hmc.wk.p1 q).1]; decide)).2
  have wy : WK y (va_up (BPL (zV z0) (z0.2 6)) id (va_up bp k v)) R tk PP ch := by
    refine wx.mem (fun j _ _ => y1 j (by omega)) (fun b _ _ _ _ => y2 b (by omega) (by omega)) (fun n _ => Or.inl (by rw [y2 7 (by decide) (by decide)])) (fun b b1 b2 i => ?_)
    by_cases q13 : b = 13
    · rw [q13, y13]
      split
      · exact hv
      · exact wx.wd 13 (by decide) (by decide) i
    · by_cases q15 : b = 15
      · rw [q15, y15]
        split
        · exact hv
        · exact wx.wd 15 (by decide) (by decide) i
      · rw [y2 b q13 q15]; exact wx.wd b b1 b2 i
  have uy : Uz y = Uz x := Uz_frame (fun j _ _ => y1 j (by omega))
  have hKy : KC y = KC x := KC_congr (y2 7 (by decide) (by decide))
  have ycn : ∀ j i, j ≤ 7 → i < 56 → (20 ≤ k → j ≠ z.1 13) → cnt' y (va_up bp k v) j i = cnt' z bp j i := fun j i hj hi q => by
    unfold cnt'
    by_cases c0 : j = 0
    · rw [if_pos c0, if_pos c0, y2 14 (by decide) (by decide), x14]
    · rw [if_neg c0, if_neg c0, va_up_ne]
      intro e
      have h20 : 20 ≤ k := by omega
      have ho := hop h20
      unfold ndK at ho
      rw [if_neg (by omega)] at ho
      exact q h20 (by omega)
  have yop : y.1 13 = z.1 13 := by rw [y1 13 (by decide), xs 13 (by omega)]
  refine ⟨⟨wy, hmc.kw.trans kwy, hmc.w0, by rw [y1 12 (by decide), xs 12 (by omega)]; exact hmc.hid, fun m q => by rw [y6]; exact hmc.pid m q, fun m a b c => by rw [y6]; exact hmc.pot m a b c, fun m a b => ?_, fun i a b => by rw [y2 14 (by decide) (by decide), x14]; exact hmc.xz i a b, fun j hj q => ?_, fun j j' hj hj' q e => ?_, fun k' q => ?_, fun k' q => ?_, fun j hj q => ?_, ⟨?_, ?_, ?_⟩, ?_, ⟨?_, ?_⟩⟩, by rw [yop]; exact h.op, ?_, by rw [y1 15 (by decide), xs 15 (by omega)]; exact h.ic, fun q => ?_, fun q i hi => ?_⟩
  · rw [y6] at b ⊢
    rw [zk m b]
    rcases hmc.pnw m a b with ⟨v1, j, v2, v3⟩ | q
    · exact Or.inl ⟨v1, j, v2, by rw [hnu j v2]; exact v3⟩
    · exact Or.inr q
  · rw [hnu j hj] at q ⊢
    have hr := hmc.rg j hj q
    rw [y6, zk _ hr.2.2.1]
    exact hr
  · rw [hnu j hj] at q e
    rw [hnu j' hj'] at e
    exact hmc.nj j j' hj hj' q e
  · rw [y13]
    by_cases e : k' = k
    · rw [e, va_up_self, if_pos ⟨by omega, rfl⟩]
    · rw [va_up_ne _ _ e, if_neg (by omega), xI _ (by omega)]
      exact hmc.b0 k' q
  · rw [va_up_ne _ _ (by omega)]
    exact hmc.b9 k' q
  · have hnd : ¬ ((j = z.1 13 ∧ 1 ≤ j ∧ z.1 14 = 1) ∨ (j = 0 ∧ z.1 15 = 1)) := by
      rintro (⟨w1, w2, w3⟩ | ⟨w1, w2⟩)
      · refine q (Or.inl ⟨by rw [yop]; exact w1, w2, ?_⟩)
        rw [y14s]
        split
        · rfl
        · exact w3
      · exact q (Or.inr ⟨w1, by rw [y1 15 (by decide), xs 15 (by omega)]; exact w2⟩)
    have hne : 20 ≤ k → j ≠ z.1 13 := fun q20 e => by
      refine q (Or.inl ⟨by rw [yop]; exact e, ?_, by rw [y14s, if_pos q20]⟩)
      have ho := hop q20
      unfold ndK at ho
      rw [if_neg (by omega)] at ho
      omega
    obtain ⟨v1, v2⟩ := hmc.cl j hj hnd
    rw [hnu j hj, y6]
    refine ⟨fun i hi => ?_, fun w => ?_⟩
    · rw [ycn j i hj hi hne, v1 i hi]
      by_cases q0 : nuI z j = 0
      · rw [if_pos q0, if_pos q0]
      · rw [if_neg q0, if_neg q0, zk _ (hmc.rg j hj q0).2.2.1]
    · obtain ⟨i, w1, w2⟩ := v2 w
      exact ⟨i, w1, by rw [ycn j i hj w1 hne]; exact w2⟩
  · rw [y13, if_neg (by omega), xI 0 (by omega)]; exact hmc.i0.1
  · rw [y13, if_neg (by omega), xI 58 (by omega)]; exact hmc.i0.2.1
  · rw [y13, if_neg (by omega), xI 61 (by omega)]; exact hmc.i0.2.2
  · have := hmc.kc
    omega
  · exact (hmc.fr.1.trans hfr.1).trans ⟨fun j _ _ _ _ _ _ q _ => y1 j q, fun c hc => y2 c (by omega) (by omega)⟩
  · rw [y2 8 (by decide) (by decide), hfr.2, hmc.fr.2]
  · rw [y14s]
    have := h.dc
    split <;> omega
  · rw [yop] at q
    rw [y14s]
    by_cases c : 20 ≤ k
    · have ho := hop c
      unfold ndK at ho
      rw [if_neg (by omega)] at ho
      omega
    · rw [if_neg c]; exact h.d0 q
  · rw [yop] at q ⊢
    have hb := h.bo q i hi
    rw [y15, x15 i hi]
    by_cases c : 20 ≤ k
    · have ho := hop c
      unfold ndK at ho
      rw [if_neg (by omega)] at ho
      by_cases d : i = (k - 20) % 56
      · rw [if_pos ⟨c, d⟩, ho, d, show 20 + 56 * (1 + (k - 20) / 56 - 1) + (k - 20) % 56 = k by omega, va_up_self]
      · rw [if_neg (fun w => d w.2), va_up_ne]
        · exact hb
        · intro e
          rw [ho] at e
          omega
    · rw [if_neg (fun w => c w.1), va_up_ne _ _ (by omega)]
      exact hb
