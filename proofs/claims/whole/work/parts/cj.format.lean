/-! the model: format -/
/-- what stays while arrays are filled: array a's first i rows are v -/
theorem fl_up {y x : NSt} {a i v : Nat} (h : ∀ j, y.2 a j = if j < i then v else x.2 a j) : ∀ j, (zA y a i v).2 a j = if j < i + 1 then v else x.2 a j := fun j => by
  rw [zA2, if_pos rfl]
  by_cases c : j = i
  · rw [c, va_up_self, if_pos (by omega)]
  · rw [va_up_ne _ _ c, h j]
    by_cases d : j < i
    · rw [if_pos d, if_pos (by omega)]
    · rw [if_neg d, if_neg (by omega)]
theorem fm126 (FU : Nat) {x : NSt} (s r : Int32) (Q : St → Prop) (K : ∀ y, y.1 = x.1 → (∀ a, a ≠ 6 → y.2 a = x.2 a) → (∀ j, y.2 6 j = if j < 251 then 0 else x.2 6 j) → Ev (nx (setI (up y) 12 (0 : Int32)) fun g1 => (wrA 753 g1 2 (1 : Int32) (2 : Int32)).bind fun g2 => nx (setI g2 3 ((16 : Int32) * (s - r))) fun g3 => nx (setI g3 1 (1 : Int32)) fun g4 => nx (setI g4 2 (1 : Int32)) fun g5 => nx (setI g5 8 (-1 : Int32)) fun g6 => nx (setI g6 6 (0 : Int32)) fun g7 => nx (setI g7 7 (0 : Int32)) fun g8 => (Mod_checkpoint FU g8).bind fun p9 => some p9.2) Q) : ∀ (m i q : Nat) (y : NSt), i + m = 251 → m < q → y.1 = x.1 → (∀ a, a ≠ 6 → y.2 a = x.2 a) → (∀ j, y.2 6 j = if j < i then 0 else x.2 6 j) → Ev (Mod_format_b126 FU q s r (nI i) (up y)) Q := by
  intro m
  induction m with
  | zero =>
    intro i q y h1 h2 y1 ya y6
    obtain ⟨q, rfl⟩ : ∃ q9, q = q9 + 1 := ⟨q - 1, by omega⟩
    have h1 : i = 251 := h1
    subst h1
    unfold Mod_format_b126
    rw [if_pos (show (251 : Int32) ≤ nI 251 by decide)]
    exact K y y1 ya y6
  | succ m ih =>
    intro i q y h1 h2 y1 ya y6
    obtain ⟨q, rfl⟩ : ∃ q9, q = q9 + 1 := ⟨q - 1, by omega⟩
    unfold Mod_format_b126
    rw [if_neg (show ¬ (251 : Int32) ≤ nI i from nI_ge (b := 251) (by omega) (by decide)), show nz (0 : Int32) = nI 0 by decide, wrA_z y 6 (by omega) (by decide), Option.bind_some, nI_1]
    exact ih (i + 1) q _ (by omega) (by omega) y1 (fun a ha => by rw [zA2, if_neg ha]; exact ya a ha) (fl_up y6)
theorem fm83 (FU : Nat) {x : NSt} (s r : Int32) (Q : St → Prop) (K : ∀ y, y.1 = x.1 → (∀ a, a ≠ 2 → a ≠ 3 → a ≠ 4 → a ≠ 5 → y.2 a = x.2 a) → (∀ a, a = 2 ∨ a = 3 ∨ a = 4 ∨ a = 5 → ∀ j, y.2 a j = if j < 753 then 0 else x.2 a j) → Ev (Mod_format_b126 FU FU s r (0 : Int32) (up y)) Q) : ∀ (m i q : Nat) (y : NSt), i + m = 753 → m < q → y.1 = x.1 → (∀ a, a ≠ 2 → a ≠ 3 → a ≠ 4 → a ≠ 5 → y.2 a = x.2 a) → (∀ a, a = 2 ∨ a = 3 ∨ a = 4 ∨ a = 5 → ∀ j, y.2 a j = if j < i then 0 else x.2 a j) → Ev (Mod_format_b83 FU q s r (nI i) (up y)) Q := by
  intro m
  induction m with
  | zero =>
    intro i q y h1 h2 y1 ya y6
    obtain ⟨q, rfl⟩ : ∃ q9, q = q9 + 1 := ⟨q - 1, by omega⟩
    have h1 : i = 753 := h1
    subst h1
    unfold Mod_format_b83
    rw [if_pos (show (753 : Int32) ≤ nI 753 by decide)]
    exact K y y1 ya y6
  | succ m ih =>
    intro i q y h1 h2 y1 ya y6
    obtain ⟨q, rfl⟩ : ∃ q9, q = q9 + 1 := ⟨q - 1, by omega⟩
    unfold Mod_format_b83
    rw [if_neg (show ¬ (753 : Int32) ≤ nI i from nI_ge (b := 753) (by omega) (by decide)), show nz (0 : Int32) = nI 0 by decide, show (0 : Int32) = nI 0 from rfl, wrA_z y 2 (by omega) (by decide), Option.bind_some, wrA_z _ 3 (by omega) (by decide), Option.bind_some, wrA_z _ 4 (by omega) (by decide), Option.bind_some, wrA_z _ 5 (by omega) (by decide), Option.bind_some, nI_1]
    refine ih (i + 1) q _ (by omega) (by omega) y1 (fun a a2 a3 a4 a5 => by rw [zA2, if_neg a5, zA2, if_neg a4, zA2, if_neg a3, zA2, if_neg a2]; exact ya a a2 a3 a4 a5) (fun a q j => ?_)
    have e := fl_up (y6 a q) j
    rw [← e]
    rcases q with rfl | rfl | rfl | rfl
    · rw [zA2, if_neg (by decide), zA2, if_neg (by decide), zA2, if_neg (by decide)]
    · rw [zA2, if_neg (by decide), zA2, if_neg (by decide), zA2, if_pos rfl, zA2 y 2 i 0 3, if_neg (by decide), zA2 y 3 i 0 3, if_pos rfl]
    · rw [zA2, if_neg (by decide), zA2, if_pos rfl, zA2 _ 3 i 0 4, if_neg (by decide), zA2 y 2 i 0 4, if_neg (by decide), zA2 y 4 i 0 4, if_pos rfl]
    · rw [zA2, if_pos rfl, zA2 _ 4 i 0 5, if_neg (by decide), zA2 _ 3 i 0 5, if_neg (by decide), zA2 y 2 i 0 5, if_neg (by decide), zA2 y 5 i 0 5, if_pos rfl]
theorem fm62 (FU : Nat) {x : NSt} (s r : Int32) (Q : St → Prop) (K : ∀ y, y.1 = x.1 → (∀ a, a ≠ 8 → y.2 a = x.2 a) → (∀ j, y.2 8 j = if j < 294423 then neg1 else x.2 8 j) → Ev (Mod_format_b83 FU FU s r (0 : Int32) (up y)) Q) : ∀ (m i q : Nat) (y : NSt), i + m = 294423 → m < q → y.1 = x.1 → (∀ a, a ≠ 8 → y.2 a = x.2 a) → (∀ j, y.2 8 j = if j < i then neg1 else x.2 8 j) → Ev (Mod_format_b62 FU q s r (nI i) (up y)) Q := by
  intro m
  induction m with
  | zero =>
    intro i q y h1 h2 y1 ya y6
    obtain ⟨q, rfl⟩ : ∃ q9, q = q9 + 1 := ⟨q - 1, by omega⟩
    have h1 : i = 294423 := h1
    subst h1
    unfold Mod_format_b62
    rw [if_pos (show (294423 : Int32) ≤ nI 294423 by decide)]
    exact K y y1 ya y6
  | succ m ih =>
    intro i q y h1 h2 y1 ya y6
    obtain ⟨q, rfl⟩ : ∃ q9, q = q9 + 1 := ⟨q - 1, by omega⟩
    unfold Mod_format_b62
    rw [if_neg (show ¬ (294423 : Int32) ≤ nI i from nI_ge (b := 294423) (by omega) (by decide)), ← neg_I, wrA_z y 8 (by omega) (by decide), Option.bind_some, nI_1]
    exact ih (i + 1) q _ (by omega) (by omega) y1 (fun a ha => by rw [zA2, if_neg ha]; exact ya a ha) (fl_up y6)
theorem fm40 (FU : Nat) {x : NSt} (s r : Int32) (Q : St → Prop) (K : ∀ y, y.1 = x.1 → (∀ a, a ≠ 10 → y.2 a = x.2 a) → (∀ j, y.2 10 j = if j < 6600 then 0 else x.2 10 j) → Ev (Mod_format_b62 FU FU s r (0 : Int32) (up y)) Q) : ∀ (m i q : Nat) (y : NSt), i + m = 6600 → m < q → y.1 = x.1 → (∀ a, a ≠ 10 → y.2 a = x.2 a) → (∀ j, y.2 10 j = if j < i then 0 else x.2 10 j) → Ev (Mod_format_b40 FU q s r (nI i) (up y)) Q := by
  intro m
  induction m with
  | zero =>
    intro i q y h1 h2 y1 ya y6
    obtain ⟨q, rfl⟩ : ∃ q9, q = q9 + 1 := ⟨q - 1, by omega⟩
    have h1 : i = 6600 := h1
    subst h1
    unfold Mod_format_b40
    rw [if_pos (show (6600 : Int32) ≤ nI 6600 by decide)]
    exact K y y1 ya y6
  | succ m ih =>
    intro i q y h1 h2 y1 ya y6
    obtain ⟨q, rfl⟩ : ∃ q9, q = q9 + 1 := ⟨q - 1, by omega⟩
    unfold Mod_format_b40
    rw [if_neg (show ¬ (6600 : Int32) ≤ nI i from nI_ge (b := 6600) (by omega) (by decide)), show (0 : Int32) = nI 0 from rfl, wrA_z y 10 (by omega) (by decide), Option.bind_some, nI_1]
    exact ih (i + 1) q _ (by omega) (by omega) y1 (fun a ha => by rw [zA2, if_neg ha]; exact ya a ha) (fl_up y6)
/-- format leaves out what it refuses -/
theorem format_no (FU : Nat) (w : NSt) {s r : Nat} (hs : s < 2 ^ 32) (hr : r < 2 ^ 32) (hc : ¬ (48 ≤ s ∧ s ≤ 128 ∧ 24 ≤ r ∧ r ≤ s / 2)) : Mod_format FU (nI s) (nI r) (up w) = some (up (thw w 1)) := by
  unfold Mod_format Mod_format_b25 Mod_format_b30
  rw [show (48 : Int32) = nI 48 from rfl, show (128 : Int32) = nI 128 from rfl, in_z FU _ hs (by decide) (by decide), Option.bind_some]
  by_cases c : 48 ≤ s ∧ s ≤ 128
  · rw [if_pos c, if_neg n1, show (2 : Int32) = nI 2 from rfl, pk_div (by omega) (by decide) (by decide), show (24 : Int32) = nI 24 from rfl, in_z FU _ hr (by decide) (by omega), Option.bind_some, if_neg (show ¬ (24 ≤ r ∧ r ≤ s / 2) by omega), if_pos i00, th10, Option.bind_some, if_neg n1]
  · rw [if_neg c, if_pos i00, th10, Option.bind_some, if_neg n1]
/-- what format does -/
theorem format_yes {FU : Nat} (hF : 300000 < FU) {w : NSt} {A : AB} (h : MC w A) (hse : w.1 11 < 6600) (hrn : ∀ id, 1 ≤ id → id ≤ 250 → w.2 7 id ≤ 1) {oe : Nat → Nat → Nat} (hoe : EN w 15 16 17 18 (w.1 13) oe) {s r : Nat} (hc : 48 ≤ s ∧ s ≤ 128 ∧ 24 ≤ r ∧ r ≤ s / 2) (hT0 : TFA (newT (TRE.of (fun _ => 0) (fun _ => 0) (fun _ => 0) (fun _ _ => 0) (fun _ => FV.of 0 1 (fun _ => 0) (fun _ => 0))) 1 2 0)) : Ev (Mod_format FU (nI s) (nI r) (up w)) fun q => ∃ y, q = up y ∧ y.1 0 = 0 ∧ MI y (formatA s r A).2.2 := by
  obtain ⟨c1, c2, c3, c4⟩ := hc
  unfold Mod_format Mod_format_b30 formatA
  rw [if_pos (show 48 ≤ s ∧ s ≤ 128 ∧ 24 ≤ r ∧ r ≤ s / 2 from ⟨c1, c2, c3, c4⟩), show (48 : Int32) = nI 48 from rfl, show (128 : Int32) = nI 128 from rfl, in_z FU _ (by omega) (by decide) (by decide), Option.bind_some, if_pos (show 48 ≤ s ∧ s ≤ 128 from ⟨c1, c2⟩), if_neg n1, show (2 : Int32) = nI 2 from rfl, pk_div (by omega) (by decide) (by decide), show (24 : Int32) = nI 24 from rfl, in_z FU _ (by omega) (by decide) (by omega), Option.bind_some, if_pos (show 24 ≤ r ∧ r ≤ s / 2 from ⟨c3, c4⟩), if_neg n1, th00, Option.bind_some, if_pos i00]
  obtain ⟨T0, eT0⟩ : ∃ T, T = newT (TRE.of (fun _ => 0) (fun _ => 0) (fun _ => 0) (fun _ _ => 0) (fun _ => FV.of 0 1 (fun _ => 0) (fun _ => 0))) 1 2 0 := ⟨_, rfl⟩
  rw [← eT0] at hT0 ⊢
  obtain ⟨x, ex⟩ : ∃ x, x = thw w 0 := ⟨_, rfl⟩
  rw [← ex]
  have x0 : x.1 0 = 0 := by rw [ex]; exact thw0 w 0
  have x1 : ∀ k, k ≠ 0 → x.1 k = w.1 k := fun k hk => by rw [ex]; unfold thw; rw [zI1, if_neg hk]
  have x2 : x.2 = w.2 := by rw [ex]; rfl
  refine fm40 FU (x := x) (nI s) (nI r) _ (fun u u1 ua u10 => ?_) 6600 0 FU x (by omega) (by omega) rfl (fun _ _ => rfl) (fun j => by rw [if_neg (by omega)])
  refine fm62 FU (x := u) (nI s) (nI r) _ (fun v v1 va v8 => ?_) 294423 0 FU u (by omega) (by omega) rfl (fun _ _ => rfl) (fun j => by rw [if_neg (by omega)])
  refine fm83 FU (x := v) (nI s) (nI r) _ (fun t t1 ta tb => ?_) 753 0 FU v (by omega) (by omega) rfl (fun _ _ _ _ _ => rfl) (fun a q j => by rw [if_neg (by omega)])
  refine fm126 FU (x := t) (nI s) (nI r) _ (fun z z1 za z6 => ?_) 251 0 FU t (by omega) (by omega) rfl (fun _ _ => rfl) (fun j => by rw [if_neg (by omega)])
  have s1 : z.1 = x.1 := by rw [z1, t1, v1, u1]
  have ar : ∀ a, a = 0 ∨ a = 1 ∨ a = 7 ∨ a = 9 ∨ 11 ≤ a → z.2 a = w.2 a := fun a q => by rw [za a (by omega), ta a (by omega) (by omega) (by omega) (by omega), va a (by omega), ua a (by omega), x2]
  have a10 : ∀ j, j < 6600 → z.2 10 j = 0 := fun j hj => by rw [za 10 (by decide), ta 10 (by decide) (by decide) (by decide) (by decide), va 10 (by decide), u10, if_pos hj]
  have a8 : ∀ j, j < 294423 → z.2 8 j = neg1 := fun j hj => by rw [za 8 (by decide), ta 8 (by decide) (by decide) (by decide) (by decide), v8, if_pos hj]
  have a2 : ∀ a, a = 2 ∨ a = 3 ∨ a = 4 ∨ a = 5 → ∀ j, j < 753 → z.2 a j = 0 := fun a q j hj => by rw [za a (by omega), tb a q, if_pos hj]
  have a6 : ∀ j, j < 251 → z.2 6 j = 0 := fun j hj => by rw [z6, if_pos hj]
  have wdz : ∀ a i, z.2 a i < 2 ^ 32 := fun a i => by
    by_cases q6 : a = 6
    · rw [q6, z6]
      split
      · decide
      · rw [ta 6 (by decide) (by decide) (by decide) (by decide), va 6 (by decide), ua 6 (by decide), x2]; exact h.wd _ _
    · rw [za a q6]
      by_cases q2 : a = 2 ∨ a = 3 ∨ a = 4 ∨ a = 5
      · rw [tb a q2]
        split
        · decide
        · rw [va a (by omega), ua a (by omega), x2]; exact h.wd _ _
      · rw [ta a (by omega) (by omega) (by omega) (by omega)]
        by_cases q8 : a = 8
        · rw [q8, v8]
          split
          · decide
          · rw [ua 8 (by decide), x2]; exact h.wd _ _
        · rw [va a q8]
          by_cases q10 : a = 10
          · rw [q10, u10]
            split
            · decide
            · rw [x2]; exact h.wd _ _
          · rw [ua a q10, x2]; exact h.wd _ _
  have em : (16 : Int32) * (nI s - nI r) = nI (16 * (s - r)) := by
    rw [pk_sub (by omega)]
    exact pk_mul 16 _
  rw [em, show (0 : Int32) = nI 0 from rfl, ← neg_I, show (1 : Int32) = nI 1 from rfl, show (2 : Int32) = nI 2 from rfl, nx_eq, up_I, wrA_z _ 2 (by decide) (by decide), Option.bind_some, nx_eq, up_I, nx_eq, up_I, nx_eq, up_I, nx_eq, up_I, nx_eq, up_I, nx_eq, up_I]
  obtain ⟨y, ey⟩ : ∃ y, y = zI (zI (zI (zI (zI (zI (zA (zI z 12 0) 2 1 2) 3 (16 * (s - r))) 1 1) 2 1) 8 neg1) 6 0) 7 0 := ⟨_, rfl⟩
  rw [← ey]
  have y1 : ∀ k, y.1 k = if k = 7 then 0 else if k = 6 then 0 else if k = 8 then neg1 else if k = 2 then 1 else if k = 1 then 1 else if k = 3 then 16 * (s - r) else if k = 12 then 0 else x.1 k := fun k => by
    rw [ey, zI1, zI1, zI1, zI1, zI1, zI1, zA1, zI1, s1]
  have y2 : ∀ a, a ≠ 2 → y.2 a = z.2 a := fun a ha => by
    rw [ey, zI2, zI2, zI2, zI2, zI2, zI2, zA2, if_neg ha]; rfl
  have y2' : y.2 2 = va_up (z.2 2) 1 2 := by
    rw [ey, zI2, zI2, zI2, zI2, zI2, zI2, zA2, if_pos rfl]; rfl
  have yo : ∀ k, k ≠ 7 → k ≠ 6 → k ≠ 8 → k ≠ 2 → k ≠ 1 → k ≠ 3 → k ≠ 12 → y.1 k = x.1 k := fun k k7 k6 k8 k2 k1 k3 k12 => by rw [y1, if_neg k7, if_neg k6, if_neg k8, if_neg k2, if_neg k1, if_neg k3, if_neg k12]
  obtain ⟨P, eP⟩ : ∃ P, P = (((((A.w_dv 2).w_ct 0).w_fw 0).w_rm (16 * (s - r))).w_tk 0).w_T T0 := ⟨_, rfl⟩
  obtain ⟨B, eB⟩ : ∃ B, B = ((((P.w_us (y.1 4)).w_fr (y.1 5)).w_O (TRE.of (fun _ => 0) (fun _ => 0) (fun _ => 0) oe (fun _ => FV.of 0 1 (fun _ => 0) (fun _ => 0)))).w_S (fun _ => false)).w_rn (fun id => decide (y.2 7 id = 1)) := ⟨_, rfl⟩
  have bf : B.T = T0 ∧ B.O = TRE.of (fun _ => 0) (fun _ => 0) (fun _ => 0) oe (fun _ => FV.of 0 1 (fun _ => 0) (fun _ => 0)) ∧ B.S = (fun _ => false) ∧ B.rn = (fun id => decide (y.2 7 id = 1)) ∧ B.dv = 2 ∧ B.ct = 0 ∧ B.tl = A.tl ∧ B.ol = A.ol ∧ B.tp = A.tp ∧ B.tb = A.tb ∧ B.rm = 16 * (s - r) ∧ B.us = y.1 4 ∧ B.fr = y.1 5 ∧ B.tk = 0 ∧ B.fw = 0 := by
    rw [eB, eP]
    simp only [wr_tp_tp, wr_tp_tl, wr_tp_tb, wr_tp_ol, wr_tp_dv, wr_tp_ct, wr_tp_us, wr_tp_fr, wr_tp_tk, wr_tp_rm, wr_tp_fw, wr_tp_T, wr_tp_O, wr_tp_S, wr_tp_F, wr_tp_rn, wr_tl_tp, wr_tl_tl, wr_tl_tb, wr_tl_ol, wr_tl_dv, wr_tl_ct, wr_tl_us, wr_tl_fr, wr_tl_tk, wr_tl_rm, wr_tl_fw, wr_tl_T, wr_tl_O, wr_tl_S, wr_tl_F, wr_tl_rn, wr_tb_tp, wr_tb_tl, wr_tb_tb, wr_tb_ol, wr_tb_dv, wr_tb_ct, wr_tb_us, wr_tb_fr, wr_tb_tk, wr_tb_rm, wr_tb_fw, wr_tb_T, wr_tb_O, wr_tb_S, wr_tb_F, wr_tb_rn, wr_ol_tp, wr_ol_tl, wr_ol_tb, wr_ol_ol, wr_ol_dv, wr_ol_ct, wr_ol_us, wr_ol_fr, wr_ol_tk, wr_ol_rm, wr_ol_fw, wr_ol_T, wr_ol_O, wr_ol_S, wr_ol_F, wr_ol_rn, wr_dv_tp, wr_dv_tl, wr_dv_tb, wr_dv_ol, wr_dv_dv, wr_dv_ct, wr_dv_us, wr_dv_fr, wr_dv_tk, wr_dv_rm, wr_dv_fw, wr_dv_T, wr_dv_O, wr_dv_S, wr_dv_F, wr_dv_rn, wr_ct_tp, wr_ct_tl, wr_ct_tb, wr_ct_ol, wr_ct_dv, wr_ct_ct, wr_ct_us, wr_ct_fr, wr_ct_tk, wr_ct_rm, wr_ct_fw, wr_ct_T, wr_ct_O, wr_ct_S, wr_ct_F, wr_ct_rn, wr_us_tp, wr_us_tl, wr_us_tb, wr_us_ol, wr_us_dv, wr_us_ct, wr_us_us, wr_us_fr, wr_us_tk, wr_us_rm, wr_us_fw, wr_us_T, wr_us_O, wr_us_S, wr_us_F, wr_us_rn, wr_fr_tp, wr_fr_tl, wr_fr_tb, wr_fr_ol, wr_fr_dv, wr_fr_ct, wr_fr_us, wr_fr_fr, wr_fr_tk, wr_fr_rm, wr_fr_fw, wr_fr_T, wr_fr_O, wr_fr_S, wr_fr_F, wr_fr_rn, wr_tk_tp, wr_tk_tl, wr_tk_tb, wr_tk_ol, wr_tk_dv, wr_tk_ct, wr_tk_us, wr_tk_fr, wr_tk_tk, wr_tk_rm, wr_tk_fw, wr_tk_T, wr_tk_O, wr_tk_S, wr_tk_F, wr_tk_rn, wr_rm_tp, wr_rm_tl, wr_rm_tb, wr_rm_ol, wr_rm_dv, wr_rm_ct, wr_rm_us, wr_rm_fr, wr_rm_tk, wr_rm_rm, wr_rm_fw, wr_rm_T, wr_rm_O, wr_rm_S, wr_rm_F, wr_rm_rn, wr_fw_tp, wr_fw_tl, wr_fw_tb, wr_fw_ol, wr_fw_dv, wr_fw_ct, wr_fw_us, wr_fw_fr, wr_fw_tk, wr_fw_rm, wr_fw_fw, wr_fw_T, wr_fw_O, wr_fw_S, wr_fw_F, wr_fw_rn, wr_T_tp, wr_T_tl, wr_T_tb, wr_T_ol, wr_T_dv, wr_T_ct, wr_T_us, wr_T_fr, wr_T_tk, wr_T_rm, wr_T_fw, wr_T_T, wr_T_O, wr_T_S, wr_T_F, wr_T_rn, wr_O_tp, wr_O_tl, wr_O_tb, wr_O_ol, wr_O_dv, wr_O_ct, wr_O_us, wr_O_fr, wr_O_tk, wr_O_rm, wr_O_fw, wr_O_T, wr_O_O, wr_O_S, wr_O_F, wr_O_rn, wr_S_tp, wr_S_tl, wr_S_tb, wr_S_ol, wr_S_dv, wr_S_ct, wr_S_us, wr_S_fr, wr_S_tk, wr_S_rm, wr_S_fw, wr_S_T, wr_S_O, wr_S_S, wr_S_F, wr_S_rn, wr_F_tp, wr_F_tl, wr_F_tb, wr_F_ol, wr_F_dv, wr_F_ct, wr_F_us, wr_F_fr, wr_F_tk, wr_F_rm, wr_F_fw, wr_F_T, wr_F_O, wr_F_S, wr_F_F, wr_F_rn, wr_rn_tp, wr_rn_tl, wr_rn_tb, wr_rn_ol, wr_rn_dv, wr_rn_ct, wr_rn_us, wr_rn_fr, wr_rn_tk, wr_rn_rm, wr_rn_fw, wr_rn_T, wr_rn_O, wr_rn_S, wr_rn_F, wr_rn_rn]
    exact ⟨trivial, trivial, trivial, trivial, trivial, trivial, trivial, trivial, trivial, trivial, trivial, trivial, trivial, trivial, trivial⟩
  have bc : B.ckp = P.ckp := by
    have bT : B.T = P.T := by rw [bf.1, eP]; rfl
    unfold AB.ckp
    rw [bT]
    obtain ⟨u9, eu9⟩ : ∃ u9, u9 = inT P.T := ⟨_, rfl⟩
    rw [← eu9]
    unfold AB.ckpW
    rw [bT, eB]
    refine AB_ext ?_ ?_ ?_ ?_ ?_ ?_ ?_ ?_ ?_ ?_ ?_ ?_ ?_ ?_ ?_ ?_ <;> simp only [wr_tp_tp, wr_tp_tl, wr_tp_tb, wr_tp_ol, wr_tp_dv, wr_tp_ct, wr_tp_us, wr_tp_fr, wr_tp_tk, wr_tp_rm, wr_tp_fw, wr_tp_T, wr_tp_O, wr_tp_S, wr_tp_F, wr_tp_rn, wr_tl_tp, wr_tl_tl, wr_tl_tb, wr_tl_ol, wr_tl_dv, wr_tl_ct, wr_tl_us, wr_tl_fr, wr_tl_tk, wr_tl_rm, wr_tl_fw, wr_tl_T, wr_tl_O, wr_tl_S, wr_tl_F, wr_tl_rn, wr_tb_tp, wr_tb_tl, wr_tb_tb, wr_tb_ol, wr_tb_dv, wr_tb_ct, wr_tb_us, wr_tb_fr, wr_tb_tk, wr_tb_rm, wr_tb_fw, wr_tb_T, wr_tb_O, wr_tb_S, wr_tb_F, wr_tb_rn, wr_ol_tp, wr_ol_tl, wr_ol_tb, wr_ol_ol, wr_ol_dv, wr_ol_ct, wr_ol_us, wr_ol_fr, wr_ol_tk, wr_ol_rm, wr_ol_fw, wr_ol_T, wr_ol_O, wr_ol_S, wr_ol_F, wr_ol_rn, wr_dv_tp, wr_dv_tl, wr_dv_tb, wr_dv_ol, wr_dv_dv, wr_dv_ct, wr_dv_us, wr_dv_fr, wr_dv_tk, wr_dv_rm, wr_dv_fw, wr_dv_T, wr_dv_O, wr_dv_S, wr_dv_F, wr_dv_rn, wr_ct_tp, wr_ct_tl, wr_ct_tb, wr_ct_ol, wr_ct_dv, wr_ct_ct, wr_ct_us, wr_ct_fr, wr_ct_tk, wr_ct_rm, wr_ct_fw, wr_ct_T, wr_ct_O, wr_ct_S, wr_ct_F, wr_ct_rn, wr_us_tp, wr_us_tl, wr_us_tb, wr_us_ol, wr_us_dv, wr_us_ct, wr_us_us, wr_us_fr, wr_us_tk, wr_us_rm, wr_us_fw, wr_us_T, wr_us_O, wr_us_S, wr_us_F, wr_us_rn, wr_fr_tp, wr_fr_tl, wr_fr_tb, wr_fr_ol, wr_fr_dv, wr_fr_ct, wr_fr_us, wr_fr_fr, wr_fr_tk, wr_fr_rm, wr_fr_fw, wr_fr_T, wr_fr_O, wr_fr_S, wr_fr_F, wr_fr_rn, wr_tk_tp, wr_tk_tl, wr_tk_tb, wr_tk_ol, wr_tk_dv, wr_tk_ct, wr_tk_us, wr_tk_fr, wr_tk_tk, wr_tk_rm, wr_tk_fw, wr_tk_T, wr_tk_O, wr_tk_S, wr_tk_F, wr_tk_rn, wr_rm_tp, wr_rm_tl, wr_rm_tb, wr_rm_ol, wr_rm_dv, wr_rm_ct, wr_rm_us, wr_rm_fr, wr_rm_tk, wr_rm_rm, wr_rm_fw, wr_rm_T, wr_rm_O, wr_rm_S, wr_rm_F, wr_rm_rn, wr_fw_tp, wr_fw_tl, wr_fw_tb, wr_fw_ol, wr_fw_dv, wr_fw_ct, wr_fw_us, wr_fw_fr, wr_fw_tk, wr_fw_rm, wr_fw_fw, wr_fw_T, wr_fw_O, wr_fw_S, wr_fw_F, wr_fw_rn, wr_T_tp, wr_T_tl, wr_T_tb, wr_T_ol, wr_T_dv, wr_T_ct, wr_T_us, wr_T_fr, wr_T_tk, wr_T_rm, wr_T_fw, wr_T_T, wr_T_O, wr_T_S, wr_T_F, wr_T_rn, wr_O_tp, wr_O_tl, wr_O_tb, wr_O_ol, wr_O_dv, wr_O_ct, wr_O_us, wr_O_fr, wr_O_tk, wr_O_rm, wr_O_fw, wr_O_T, wr_O_O, wr_O_S, wr_O_F, wr_O_rn, wr_S_tp, wr_S_tl, wr_S_tb, wr_S_ol, wr_S_dv, wr_S_ct, wr_S_us, wr_S_fr, wr_S_tk, wr_S_rm, wr_S_fw, wr_S_T, wr_S_O, wr_S_S, wr_S_F, wr_S_rn, wr_F_tp, wr_F_tl, wr_F_tb, wr_F_ol, wr_F_dv, wr_F_ct, wr_F_us, wr_F_fr, wr_F_tk, wr_F_rm, wr_F_fw, wr_F_T, wr_F_O, wr_F_S, wr_F_F, wr_F_rn, wr_rn_tp, wr_rn_tl, wr_rn_tb, wr_rn_ol, wr_rn_dv, wr_rn_ct, wr_rn_us, wr_rn_fr, wr_rn_tk, wr_rn_rm, wr_rn_fw, wr_rn_T, wr_rn_O, wr_rn_S, wr_rn_F, wr_rn_rn]
  obtain ⟨bT, bO, bS, br, b1, b2, b3, b4, b5, b6, b7, b8, b9, b10, b11⟩ := bf
  have T0k : ∀ id, T0.kd id = if id = 1 then 2 else 0 := fun id => by rw [eT0]; rfl
  have T0e : ∀ d n, T0.ent d n = 0 := fun d n => by
    rw [eT0]
    show va_up (fun _ _ => 0) 1 (fun _ => 0) d n = 0
    unfold va_up
    split <;> rfl
  have hB : MI y B := by
    refine ⟨?_, ?_, ?_, ?_, ?_, ?_, ?_, ?_, ?_, ?_, ?_, ?_, ?_, ?_, ?_, ?_, ?_, ?_⟩
    · rw [b1, y1 1, y1 2]; exact ⟨by decide, rfl, rfl⟩
    · rw [b7, b8, b9, b10, b11, y1 3, y1 6, y1 7]; exact ⟨rfl, rfl, rfl, rfl, rfl⟩
    · rw [b2, y1 8]; exact Or.inl ⟨rfl, rfl⟩
    · rw [b2]; exact fun _ => rfl
    · rw [b3, yo 9 (by decide) (by decide) (by decide) (by decide) (by decide) (by decide) (by decide), x1 9 (by decide)]; exact h.tl
    · rw [b4, yo 10 (by decide) (by decide) (by decide) (by decide) (by decide) (by decide) (by decide), x1 10 (by decide)]; exact h.ol
    · rw [b5, y2 0 (by decide), ar 0 (by omega)]; exact h.tp
    · rw [b6, b4, y2 1 (by decide), ar 1 (by omega)]; exact h.tb
    · rw [bT, show y.1 12 = 0 from y1 12]
      exact ⟨by decide, fun k hk => by omega, fun k hk => by omega, fun k hk => by omega, fun k hk => by omega, fun k k' hk => by omega, fun d n q => absurd (T0e d n) q⟩
    · rw [bO, yo 13 (by decide) (by decide) (by decide) (by decide) (by decide) (by decide) (by decide), x1 13 (by decide)]
      exact hoe.keep (by rw [y2 15 (by decide), ar 15 (by omega)]) (by rw [y2 16 (by decide), ar 16 (by omega)]) (by rw [y2 17 (by decide), ar 17 (by omega)]) (by rw [y2 18 (by decide), ar 18 (by omega)])
    · intro id i1 i2
      rw [bT, bO, y2', T0k]
      refine ⟨?_, ?_⟩
      · unfold va_up
        by_cases c : id = 1
        · rw [if_pos c, if_pos c]
        · rw [if_neg c, if_neg c]; exact a2 2 (by omega) id (by omega)
      · rw [va_up_ne _ _ (by omega)]; exact a2 2 (by omega) _ (by omega)
    · intro id i1 i2
      rw [bT, bO, T0k]
      refine ⟨fun q => ?_, fun q => absurd q (show ¬ (0 : Nat) = 1 by decide)⟩
      split at q <;> cases q
    · intro id i1 i2
      rw [bS, y2 6 (by decide)]
      exact a6 id (by omega)
    · intro id i1 i2
      rw [bT, T0k, y2 7 (by decide), ar 7 (by omega)]
      refine ⟨hrn id i1 i2, fun q => ?_⟩
      split at q <;> cases q
    · intro id i1 i2
      rw [bT, T0k]
      refine ⟨fun q => ?_, fun _ p hp => ?_⟩
      · split at q <;> cases q
      · rw [y2 8 (by decide)]; exact a8 _ (pcN_lt (by decide) i2 hp)
    · intro id i1 i2
      rw [bO]
      refine ⟨fun q => absurd q (show ¬ (0 : Nat) = 1 by decide), fun _ p hp => ?_⟩
      rw [y2 8 (by decide)]; exact a8 _ (pcN_lt (by decide) i2 hp)
    · intro id i1 i2
      rw [bS]
      refine ⟨fun q => Bool.noConfusion q, fun _ p hp => ?_⟩
      rw [y2 8 (by decide)]; exact a8 _ (pcN_lt (by decide) i2 hp)
    · refine ⟨fun i hi => Or.inl (by rw [y2 8 (by decide)]; exact a8 i hi), fun q hq => ?_, ?_, fun a i => ?_⟩
      · rw [y2 10 (by decide), a10 q hq]
        unfold ocN
        refine (sm_zero (fun i hi => if_neg (fun e => ?_))).symm
        rw [NPC_eq] at hi
        rw [y2 8 (by decide), a8 i hi] at e
        unfold neg1 at e
        omega
      · rw [yo 11 (by decide) (by decide) (by decide) (by decide) (by decide) (by decide) (by decide), x1 11 (by decide)]; exact hse
      · by_cases c : a = 2
        · rw [c, y2']
          unfold va_up
          split
          · decide
          · exact wdz 2 i
        · rw [y2 a c]; exact wdz a i
  refine (checkpoint_z (by omega) hB b1 (by rw [bT]; exact hT0)).bd ?_
  rintro _ ⟨q, rfl, hq, q0, -⟩
  rw [if_neg (by rw [b2]; decide), bc, eP] at hq
  refine Ev.ret ⟨q, rfl, ?_, hq⟩
  rw [q0, yo 0 (by decide) (by decide) (by decide) (by decide) (by decide) (by decide) (by decide), x0]
