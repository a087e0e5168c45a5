/-! the model: mount whole -/
theorem mtn_b (FU : Nat) {y : NSt} (hE : y.1 12 ≤ 2400) (Q : Int32 × St → Prop) (K : ∀ z, z.1 = y.1 → (∀ a, a ≠ 14 → z.2 a = y.2 a) → (∀ t, t < 20 * y.1 12 → z.2 14 t = sxN (y.2 18 t % 256)) → (∀ t, z.2 14 t < 2 ^ 32) → Ev (nx (setI (up z) 2 (1 : Int32)) fun g1 => (Mod_checkpoint FU g1).bind fun p2 => some ((p2.2.1 7), p2.2)) Q) : ∀ (m j q : Nat) (z : NSt), j + m = 20 * y.1 12 → m < q → z.1 = y.1 → (∀ a, a ≠ 14 → z.2 a = y.2 a) → (∀ t, t < j → z.2 14 t = sxN (y.2 18 t % 256)) → (∀ t, z.2 14 t < 2 ^ 32) → Ev (Mod_mount_b231 FU q (nI j) (up z)) Q := by
  intro m
  induction m with
  | zero =>
    intro j q z h1 h2 z1 za z18 zw
    obtain ⟨q, rfl⟩ : ∃ q9, q = q9 + 1 := ⟨q - 1, by omega⟩
    unfold Mod_mount_b231
    rw [up1, z1, show (20 : Int32) * nI (y.1 12) = nI (20 * y.1 12) from pk_mul 20 _, if_pos (nI_le (by omega) (by omega))]
    exact K z z1 za (fun t ht => z18 t (by omega)) zw
  | succ m ih =>
    intro j q z h1 h2 z1 za z18 zw
    obtain ⟨q, rfl⟩ : ∃ q9, q = q9 + 1 := ⟨q - 1, by omega⟩
    unfold Mod_mount_b231
    rw [up1, z1, show (20 : Int32) * nI (y.1 12) = nI (20 * y.1 12) from pk_mul 20 _, if_neg (nI_ge (by omega) (by omega)), rdA_z z 18 (by omega) (by decide), Option.bind_some, nby_n, wrA_z z 14 (by omega) (by decide), Option.bind_some, nI_1]
    refine ih (j + 1) q _ (by omega) (by omega) z1 (fun a ha => by rw [zA2, if_neg ha]; exact za a ha) (fun t ht => ?_) (fun t => ?_)
    · rw [zA2, if_pos rfl]
      by_cases c : t = j
      · rw [c, va_up_self, za 18 (by decide)]
      · rw [va_up_ne _ _ c]; exact z18 t (by omega)
    · rw [zA2, if_pos rfl]
      unfold va_up
      split
      · exact sxN_lt (Nat.mod_lt _ (by decide))
      · exact zw t
theorem mte_b (FU : Nat) {x : NSt} (hE : x.1 12 ≤ 2400) (hw : ∀ a i, x.2 a i < 2 ^ 32) (Q : Int32 × St → Prop) (K : ∀ y, y.1 = x.1 → (∀ a, a ≠ 11 → a ≠ 12 → a ≠ 13 → y.2 a = x.2 a) → (∀ k, k < x.1 12 → y.2 11 k = x.2 15 k ∧ y.2 12 k = x.2 16 k ∧ y.2 13 k = x.2 17 k) → (∀ a i, y.2 a i < 2 ^ 32) → Ev (Mod_mount_b231 FU FU (0 : Int32) (up y)) Q) : ∀ (m i q : Nat) (y : NSt), i + m = x.1 12 → m < q → y.1 = x.1 → (∀ a, a ≠ 11 → a ≠ 12 → a ≠ 13 → y.2 a = x.2 a) → (∀ k, k < i → y.2 11 k = x.2 15 k ∧ y.2 12 k = x.2 16 k ∧ y.2 13 k = x.2 17 k) → (∀ a i, y.2 a i < 2 ^ 32) → Ev (Mod_mount_b179 FU q (nI i) (up y)) Q := by
  intro m
  induction m with
  | zero =>
    intro i q y h1 h2 y1 ya yc yw
    obtain ⟨q, rfl⟩ : ∃ q9, q = q9 + 1 := ⟨q - 1, by omega⟩
    unfold Mod_mount_b179
    rw [up1, y1, if_pos (nI_le (by omega) (by omega))]
    exact K y y1 ya (fun k hk => yc k (by omega)) yw
  | succ m ih =>
    intro i q y h1 h2 y1 ya yc yw
    obtain ⟨q, rfl⟩ : ∃ q9, q = q9 + 1 := ⟨q - 1, by omega⟩
    unfold Mod_mount_b179
    rw [up1, y1, if_neg (nI_ge (by omega) (by omega)), rdA_z y 15 (by omega) (by decide), Option.bind_some, wrA_z y 11 (by omega) (by decide), Option.bind_some, rdA_z _ 16 (by omega) (by decide), Option.bind_some, wrA_z _ 12 (by omega) (by decide), Option.bind_some, rdA_z _ 17 (by omega) (by decide), Option.bind_some, wrA_z _ 13 (by omega) (by decide), Option.bind_some, nI_1]
    obtain ⟨z, ez⟩ : ∃ z, z = zA (zA (zA y 11 i (y.2 15 i)) 12 i ((zA y 11 i (y.2 15 i)).2 16 i)) 13 i ((zA (zA y 11 i (y.2 15 i)) 12 i ((zA y 11 i (y.2 15 i)).2 16 i)).2 17 i) := ⟨_, rfl⟩
    rw [← ez]
    have za : ∀ a, a ≠ 11 → a ≠ 12 → a ≠ 13 → z.2 a = y.2 a := fun a a1 a2 a3 => by rw [ez, zA2, if_neg a3, zA2, if_neg a2, zA2, if_neg a1]
    have z15 : z.2 11 = va_up (y.2 11) i (x.2 15 i) := by
      rw [ez, zA2, if_neg (by decide), zA2, if_neg (by decide), zA2, if_pos rfl, ya 15 (by decide) (by decide) (by decide)]
    have z16 : z.2 12 = va_up (y.2 12) i (x.2 16 i) := by
      rw [ez, zA2, if_neg (by decide), zA2, if_pos rfl, zA2, if_neg (by decide), zA2, if_neg (by decide), ya 16 (by decide) (by decide) (by decide)]
    have z17 : z.2 13 = va_up (y.2 13) i (x.2 17 i) := by
      rw [ez, zA2, if_pos rfl, zA2, if_neg (by decide), zA2, if_neg (by decide), zA2, if_neg (by decide), zA2, if_neg (by decide), ya 17 (by decide) (by decide) (by decide)]
    refine ih (i + 1) q z (by omega) (by omega) (by rw [ez]; exact y1) (fun a a1 a2 a3 => by rw [za a a1 a2 a3]; exact ya a a1 a2 a3) (fun k hk => ?_) (fun a j => ?_)
    · rw [z15, z16, z17]
      by_cases c : k = i
      · rw [c, va_up_self, va_up_self, va_up_self]; exact ⟨rfl, rfl, rfl⟩
      · rw [va_up_ne _ _ c, va_up_ne _ _ c, va_up_ne _ _ c]; exact yc k (by omega)
    · by_cases c5 : a = 11
      · rw [c5, z15]; unfold va_up; split
        · exact hw _ _
        · exact yw _ _
      · by_cases c6 : a = 12
        · rw [c6, z16]; unfold va_up; split
          · exact hw _ _
          · exact yw _ _
        · by_cases c7 : a = 13
          · rw [c7, z17]; unfold va_up; split
            · exact hw _ _
            · exact yw _ _
          · rw [za a c5 c6 c7]; exact yw a j
theorem mo_mount {FU : Nat} (hF : 140000 < FU) {w : NSt} {A : AB} (h : MI w A) (hA : AI A 0) (hR : A.dv = 1 → TFA A.R) : AnsM (Mod_mount FU (up w)) (ofC (mountA A).1) (mountA A) := by
  unfold Mod_mount
  rw [up1, up1, h.dv.2.1, h.dv.2.2]
  have bad : A.dv ≠ 1 → AnsM (Mod_mount_b15 FU (up w)) (ofC (mountA A).1) (mountA A) := fun q => by
    unfold mountA Mod_mount_b15 Mod_mount_b20
    rw [if_neg q, th10, Option.bind_some, if_neg n1]
    exact AnsM.mk (c := 1) (v := 0) (h.tw 1) (thw0 w 1) (fun q => by cases q)
  by_cases d0 : A.dv = 0
  · rw [if_pos d0, if_pos i00]
    exact bad (by omega)
  · rw [if_neg d0, if_neg n1]
    by_cases d2 : A.dv = 2
    · rw [if_pos d2, if_neg n1]
      exact bad (by omega)
    · have d1 : A.dv = 1 := by
        have := h.dv.1
        omega
      have hR := hR d1
      have c0 := h.cd d2
      rw [if_neg d2, if_pos i00]
      unfold mountA Mod_mount_b20
      rw [if_pos d1, th00, Option.bind_some, if_pos i00, nx_eq, show (0 : Int32) = nI 0 from rfl, up_I]
      have hx := h.tw 0
      have x0 := thw0 w 0
      obtain ⟨x, ex⟩ : ∃ x, x = thw w 0 := ⟨_, rfl⟩
      rw [← ex] at hx x0 ⊢
      obtain ⟨x', ex'⟩ : ∃ x', x' = zI x 7 0 := ⟨_, rfl⟩
      rw [← ex']
      have xs : ∀ k, k ≠ 7 → x'.1 k = x.1 k := fun k hk => by rw [ex', zI1, if_neg hk]
      have x2 : x'.2 = x.2 := by rw [ex']; rfl
      have hE := hx.eo.le
      have hpo : PO x' := hx.po.keep (by rw [xs 11 (by decide)]; exact hx.po.se) (by rw [x2]) (by rw [x2]) (by rw [x2]; exact hx.po.wd)
      have kp : ∀ {l id f}, PV x l id f → PV x' l id f := fun q => q.keep (by rw [x2]) (by rw [x2]) (by rw [x2]) (by rw [x2])
      have kn : ∀ {l id}, PN0 x l id → PN0 x' l id := fun q p hp => by rw [x2]; exact q p hp
      have h0 : MTI x' x' A 1 := ⟨hpo, fun _ _ => rfl, by rw [ex', zI1, if_pos rfl]; rfl, fun _ _ => rfl, fun id i1 i2 => ⟨by rw [if_neg (by omega), x2]; exact (hx.kd id i1 i2).1, by rw [x2]; exact (hx.kd id i1 i2).2⟩, fun id i1 i2 => ⟨fun q => by omega, by rw [x2]; exact (hx.lk id i1 i2).2⟩, fun id i1 i2 => ⟨fun q => by omega, fun _ q => kn ((hx.f0 id i1 i2).2 q)⟩, fun id i1 i2 => ⟨fun q => kp ((hx.f1 id i1 i2).1 q), fun q => kn ((hx.f1 id i1 i2).2 q)⟩, fun id i1 i2 => ⟨fun q => kp ((hx.f2 id i1 i2).1 q), fun q => kn ((hx.f2 id i1 i2).2 q)⟩⟩
      refine mt36 hF hR hA.sk (by rw [x2]; exact hx.sy) _ (fun z hz => ?_) 250 1 FU x' (by decide) (by omega) (by omega) h0
      rw [up1, up_I, nx_eq]
      obtain ⟨v, ev⟩ : ∃ v, v = zI z 12 (z.1 13) := ⟨_, rfl⟩
      rw [← ev]
      have v1 : ∀ k, k ≠ 12 → v.1 k = z.1 k := fun k hk => by rw [ev, zI1, if_neg hk]
      have v12 : v.1 12 = x.1 13 := by rw [ev, zI1, if_pos rfl, hz.sc 13 (by decide), xs 13 (by decide)]
      have v2 : v.2 = z.2 := by rw [ev]; rfl
      refine mte_b FU (x := v) (by rw [v12]; exact hE) (by rw [v2]; exact hz.po.wd) _ (fun u u1 ua uc uw => ?_) (v.1 12) 0 FU v (by omega) (by rw [v12]; omega) rfl (fun _ _ _ _ => rfl) (fun k hk => by omega) (by rw [v2]; exact hz.po.wd)
      refine mtn_b FU (y := u) (by rw [u1, v12]; exact hE) _ (fun t t1 ta t14 tw => ?_) (20 * u.1 12) 0 FU u (by omega) (by rw [u1, v12]; omega) rfl (fun _ _ => rfl) (fun t ht => by omega) (fun t => uw 14 t)
      rw [show (1 : Int32) = nI 1 from rfl, up_I, nx_eq]
      obtain ⟨y, ey⟩ : ∃ y, y = zI t 2 1 := ⟨_, rfl⟩
      rw [← ey]
      have y2 : y.2 = t.2 := by rw [ey]; rfl
      have ys : ∀ k, k ≠ 2 → k ≠ 12 → y.1 k = z.1 k := fun k k2 k12 => by rw [ey, zI1, if_neg k2, t1, u1, v1 k k12]
      have yx : ∀ k, k ≠ 2 → k ≠ 12 → k ≠ 7 → y.1 k = x.1 k := fun k k2 k12 k7 => by rw [ys k k2 k12, hz.sc k k7, xs k k7]
      have y12 : y.1 12 = x.1 13 := by rw [ey, zI1, if_neg (by decide), t1, u1, v12]
      have y7 : y.1 7 = fwdN A := by rw [ys 7 (by decide) (by decide), hz.s7]; rfl
      have az : ∀ a, a ≤ 10 ∨ 15 ≤ a → y.2 a = z.2 a := fun a q => by rw [y2, ta a (by omega), ua a (by omega) (by omega) (by omega), v2]
      have ax : ∀ a, a ≤ 1 ∨ a = 6 ∨ a = 7 ∨ a = 9 ∨ 15 ≤ a → y.2 a = x.2 a := fun a q => by rw [az a (by omega), hz.ar a (by omega), x2]
      have wdy : ∀ a i, y.2 a i < 2 ^ 32 := fun a i => by
        rw [y2]
        by_cases c : a = 14
        · rw [c]; exact tw i
        · rw [ta a c]; exact uw a i
      obtain ⟨P, eP⟩ : ∃ P, P = ((A.w_T A.R).w_dv 2).w_fw (fwdN A) := ⟨_, rfl⟩
      obtain ⟨B, eB⟩ : ∃ B, B = P.w_rn (fun id => decide (y.2 7 id = 1)) := ⟨_, rfl⟩
      have bf : B.T = A.R ∧ B.O = A.O ∧ B.S = A.S ∧ B.F = A.F ∧ B.rn = (fun id => decide (y.2 7 id = 1)) ∧ B.dv = 2 ∧ B.ct = A.ct ∧ B.tl = A.tl ∧ B.ol = A.ol ∧ B.tp = A.tp ∧ B.tb = A.tb ∧ B.rm = A.rm ∧ B.us = A.us ∧ B.fr = A.fr ∧ B.tk = A.tk ∧ B.fw = fwdN A := by
        rw [eB, eP]
        simp only [wr_tp_tp, wr_tp_tl, wr_tp_tb, wr_tp_ol, wr_tp_dv, wr_tp_ct, wr_tp_us, wr_tp_fr, wr_tp_tk, wr_tp_rm, wr_tp_fw, wr_tp_T, wr_tp_O, wr_tp_S, wr_tp_F, wr_tp_rn, wr_tl_tp, wr_tl_tl, wr_tl_tb, wr_tl_ol, wr_tl_dv, wr_tl_ct, wr_tl_us, wr_tl_fr, wr_tl_tk, wr_tl_rm, wr_tl_fw, wr_tl_T, wr_tl_O, wr_tl_S, wr_tl_F, wr_tl_rn, wr_tb_tp, wr_tb_tl, wr_tb_tb, wr_tb_ol, wr_tb_dv, wr_tb_ct, wr_tb_us, wr_tb_fr, wr_tb_tk, wr_tb_rm, wr_tb_fw, wr_tb_T, wr_tb_O, wr_tb_S, wr_tb_F, wr_tb_rn, wr_ol_tp, wr_ol_tl, wr_ol_tb, wr_ol_ol, wr_ol_dv, wr_ol_ct, wr_ol_us, wr_ol_fr, wr_ol_tk, wr_ol_rm, wr_ol_fw, wr_ol_T, wr_ol_O, wr_ol_S, wr_ol_F, wr_ol_rn, wr_dv_tp, wr_dv_tl, wr_dv_tb, wr_dv_ol, wr_dv_dv, wr_dv_ct, wr_dv_us, wr_dv_fr, wr_dv_tk, wr_dv_rm, wr_dv_fw, wr_dv_T, wr_dv_O, wr_dv_S, wr_dv_F, wr_dv_rn, wr_ct_tp, wr_ct_tl, wr_ct_tb, wr_ct_ol, wr_ct_dv, wr_ct_ct, wr_ct_us, wr_ct_fr, wr_ct_tk, wr_ct_rm, wr_ct_fw, wr_ct_T, wr_ct_O, wr_ct_S, wr_ct_F, wr_ct_rn, wr_us_tp, wr_us_tl, wr_us_tb, wr_us_ol, wr_us_dv, wr_us_ct, wr_us_us, wr_us_fr, wr_us_tk, wr_us_rm, wr_us_fw, wr_us_T, wr_us_O, wr_us_S, wr_us_F, wr_us_rn, wr_fr_tp, wr_fr_tl, wr_fr_tb, wr_fr_ol, wr_fr_dv, wr_fr_ct, wr_fr_us, wr_fr_fr, wr_fr_tk, wr_fr_rm, wr_fr_fw, wr_fr_T, wr_fr_O, wr_fr_S, wr_fr_F, wr_fr_rn, wr_tk_tp, wr_tk_tl, wr_tk_tb, wr_tk_ol, wr_tk_dv, wr_tk_ct, wr_tk_us, wr_tk_fr, wr_tk_tk, wr_tk_rm, wr_tk_fw, wr_tk_T, wr_tk_O, wr_tk_S, wr_tk_F, wr_tk_rn, wr_rm_tp, wr_rm_tl, wr_rm_tb, wr_rm_ol, wr_rm_dv, wr_rm_ct, wr_rm_us, wr_rm_fr, wr_rm_tk, wr_rm_rm, wr_rm_fw, wr_rm_T, wr_rm_O, wr_rm_S, wr_rm_F, wr_rm_rn, wr_fw_tp, wr_fw_tl, wr_fw_tb, wr_fw_ol, wr_fw_dv, wr_fw_ct, wr_fw_us, wr_fw_fr, wr_fw_tk, wr_fw_rm, wr_fw_fw, wr_fw_T, wr_fw_O, wr_fw_S, wr_fw_F, wr_fw_rn, wr_T_tp, wr_T_tl, wr_T_tb, wr_T_ol, wr_T_dv, wr_T_ct, wr_T_us, wr_T_fr, wr_T_tk, wr_T_rm, wr_T_fw, wr_T_T, wr_T_O, wr_T_S, wr_T_F, wr_T_rn, wr_O_tp, wr_O_tl, wr_O_tb, wr_O_ol, wr_O_dv, wr_O_ct, wr_O_us, wr_O_fr, wr_O_tk, wr_O_rm, wr_O_fw, wr_O_T, wr_O_O, wr_O_S, wr_O_F, wr_O_rn, wr_S_tp, wr_S_tl, wr_S_tb, wr_S_ol, wr_S_dv, wr_S_ct, wr_S_us, wr_S_fr, wr_S_tk, wr_S_rm, wr_S_fw, wr_S_T, wr_S_O, wr_S_S, wr_S_F, wr_S_rn, wr_F_tp, wr_F_tl, wr_F_tb, wr_F_ol, wr_F_dv, wr_F_ct, wr_F_us, wr_F_fr, wr_F_tk, wr_F_rm, wr_F_fw, wr_F_T, wr_F_O, wr_F_S, wr_F_F, wr_F_rn, wr_rn_tp, wr_rn_tl, wr_rn_tb, wr_rn_ol, wr_rn_dv, wr_rn_ct, wr_rn_us, wr_rn_fr, wr_rn_tk, wr_rn_rm, wr_rn_fw, wr_rn_T, wr_rn_O, wr_rn_S, wr_rn_F, wr_rn_rn]
        exact ⟨trivial, trivial, trivial, trivial, trivial, trivial, trivial, trivial, trivial, trivial, trivial, trivial, trivial, trivial, trivial, trivial⟩
      have bc : B.ckp = P.ckp := by
        have bT : B.T = P.T := by rw [eB]; rfl
        unfold AB.ckp
        rw [bT]
        obtain ⟨u9, eu9⟩ : ∃ u9, u9 = inT P.T := ⟨_, rfl⟩
        rw [← eu9]
        unfold AB.ckpW
        rw [bT, eB]
        refine AB_ext ?_ ?_ ?_ ?_ ?_ ?_ ?_ ?_ ?_ ?_ ?_ ?_ ?_ ?_ ?_ ?_ <;> simp only [wr_tp_tp, wr_tp_tl, wr_tp_tb, wr_tp_ol, wr_tp_dv, wr_tp_ct, wr_tp_us, wr_tp_fr, wr_tp_tk, wr_tp_rm, wr_tp_fw, wr_tp_T, wr_tp_O, wr_tp_S, wr_tp_F, wr_tp_rn, wr_tl_tp, wr_tl_tl, wr_tl_tb, wr_tl_ol, wr_tl_dv, wr_tl_ct, wr_tl_us, wr_tl_fr, wr_tl_tk, wr_tl_rm, wr_tl_fw, wr_tl_T, wr_tl_O, wr_tl_S, wr_tl_F, wr_tl_rn, wr_tb_tp, wr_tb_tl, wr_tb_tb, wr_tb_ol, wr_tb_dv, wr_tb_ct, wr_tb_us, wr_tb_fr, wr_tb_tk, wr_tb_rm, wr_tb_fw, wr_tb_T, wr_tb_O, wr_tb_S, wr_tb_F, wr_tb_rn, wr_ol_tp, wr_ol_tl, wr_ol_tb, wr_ol_ol, wr_ol_dv, wr_ol_ct, wr_ol_us, wr_ol_fr, wr_ol_tk, wr_ol_rm, wr_ol_fw, wr_ol_T, wr_ol_O, wr_ol_S, wr_ol_F, wr_ol_rn, wr_dv_tp, wr_dv_tl, wr_dv_tb, wr_dv_ol, wr_dv_dv, wr_dv_ct, wr_dv_us, wr_dv_fr, wr_dv_tk, wr_dv_rm, wr_dv_fw, wr_dv_T, wr_dv_O, wr_dv_S, wr_dv_F, wr_dv_rn, wr_ct_tp, wr_ct_tl, wr_ct_tb, wr_ct_ol, wr_ct_dv, wr_ct_ct, wr_ct_us, wr_ct_fr, wr_ct_tk, wr_ct_rm, wr_ct_fw, wr_ct_T, wr_ct_O, wr_ct_S, wr_ct_F, wr_ct_rn, wr_us_tp, wr_us_tl, wr_us_tb, wr_us_ol, wr_us_dv, wr_us_ct, wr_us_us, wr_us_fr, wr_us_tk, wr_us_rm, wr_us_fw, wr_us_T, wr_us_O, wr_us_S, wr_us_F, wr_us_rn, wr_fr_tp, wr_fr_tl, wr_fr_tb, wr_fr_ol, wr_fr_dv, wr_fr_ct, wr_fr_us, wr_fr_fr, wr_fr_tk, wr_fr_rm, wr_fr_fw, wr_fr_T, wr_fr_O, wr_fr_S, wr_fr_F, wr_fr_rn, wr_tk_tp, wr_tk_tl, wr_tk_tb, wr_tk_ol, wr_tk_dv, wr_tk_ct, wr_tk_us, wr_tk_fr, wr_tk_tk, wr_tk_rm, wr_tk_fw, wr_tk_T, wr_tk_O, wr_tk_S, wr_tk_F, wr_tk_rn, wr_rm_tp, wr_rm_tl, wr_rm_tb, wr_rm_ol, wr_rm_dv, wr_rm_ct, wr_rm_us, wr_rm_fr, wr_rm_tk, wr_rm_rm, wr_rm_fw, wr_rm_T, wr_rm_O, wr_rm_S, wr_rm_F, wr_rm_rn, wr_fw_tp, wr_fw_tl, wr_fw_tb, wr_fw_ol, wr_fw_dv, wr_fw_ct, wr_fw_us, wr_fw_fr, wr_fw_tk, wr_fw_rm, wr_fw_fw, wr_fw_T, wr_fw_O, wr_fw_S, wr_fw_F, wr_fw_rn, wr_T_tp, wr_T_tl, wr_T_tb, wr_T_ol, wr_T_dv, wr_T_ct, wr_T_us, wr_T_fr, wr_T_tk, wr_T_rm, wr_T_fw, wr_T_T, wr_T_O, wr_T_S, wr_T_F, wr_T_rn, wr_O_tp, wr_O_tl, wr_O_tb, wr_O_ol, wr_O_dv, wr_O_ct, wr_O_us, wr_O_fr, wr_O_tk, wr_O_rm, wr_O_fw, wr_O_T, wr_O_O, wr_O_S, wr_O_F, wr_O_rn, wr_S_tp, wr_S_tl, wr_S_tb, wr_S_ol, wr_S_dv, wr_S_ct, wr_S_us, wr_S_fr, wr_S_tk, wr_S_rm, wr_S_fw, wr_S_T, wr_S_O, wr_S_S, wr_S_F, wr_S_rn, wr_F_tp, wr_F_tl, wr_F_tb, wr_F_ol, wr_F_dv, wr_F_ct, wr_F_us, wr_F_fr, wr_F_tk, wr_F_rm, wr_F_fw, wr_F_T, wr_F_O, wr_F_S, wr_F_F, wr_F_rn, wr_rn_tp, wr_rn_tl, wr_rn_tb, wr_rn_ol, wr_rn_dv, wr_rn_ct, wr_rn_us, wr_rn_fr, wr_rn_tk, wr_rn_rm, wr_rn_fw, wr_rn_T, wr_rn_O, wr_rn_S, wr_rn_F, wr_rn_rn]
      rw [← eP]
      obtain ⟨bT, bO, bS, bF, br, b1, b2, b3, b4, b5, b6, b7, b8, b9, b10, b11⟩ := bf
      have Rk : A.R.kd = A.O.kd := rfl
      have Rl : A.R.lk = A.O.lk := rfl
      have Re : A.R.ent = A.O.ent := rfl
      have hB : MI y B := by
        refine ⟨?_, ?_, ?_, ?_, ?_, ?_, ?_, ?_, ?_, ?_, ?_, ?_, ?_, ?_, ?_, ?_, ?_, ?_⟩
        · rw [b1, yx 1 (by decide) (by decide) (by decide)]
          have := hx.dv.2.1
          rw [if_neg d0] at this
          exact ⟨by decide, by rw [this]; rfl, by rw [ey, zI1, if_pos rfl]; rfl⟩
        · obtain ⟨m1, m2, m3, m4, -⟩ := hx.ms
          rw [b7, b8, b9, b10, b11, yx 3 (by decide) (by decide) (by decide), yx 4 (by decide) (by decide) (by decide), yx 5 (by decide) (by decide) (by decide), yx 6 (by decide) (by decide) (by decide), y7]
          exact ⟨m1, m2, m3, m4, rfl⟩
        · rw [b2, yx 8 (by decide) (by decide) (by decide)]; exact hx.ct
        · rw [b1]; exact fun q => absurd rfl q
        · rw [b3, yx 9 (by decide) (by decide) (by decide)]; exact hx.tl
        · rw [b4, yx 10 (by decide) (by decide) (by decide)]; exact hx.ol
        · rw [b5, ax 0 (by omega)]; exact hx.tp
        · rw [b6, b4, ax 1 (by omega)]; exact hx.tb
        · rw [bT, Re, y12]
          have q : ∀ a, 15 ≤ a → v.2 a = x.2 a := fun a a1 => by rw [v2, hz.ar a (by omega), x2]
          have r : ∀ a, a ≠ 14 → y.2 a = u.2 a := fun a a1 => by rw [y2, ta a a1]
          refine hx.eo.copy (fun k hk => ?_) (fun k hk => ?_) (fun k hk => ?_) (fun s hs => ?_)
          · rw [r 11 (by decide), (uc k (by rw [v12]; exact hk)).1, q 15 (by decide)]
          · rw [r 12 (by decide), (uc k (by rw [v12]; exact hk)).2.1, q 16 (by decide)]
          · rw [r 13 (by decide), (uc k (by rw [v12]; exact hk)).2.2, q 17 (by decide)]
          · rw [y2, t14 s (by rw [u1, v12]; exact hs), ua 18 (by decide) (by decide) (by decide), q 18 (by decide)]
        · rw [bO, yx 13 (by decide) (by decide) (by decide)]
          exact hx.eo.keep (ax 15 (by omega)) (ax 16 (by omega)) (ax 17 (by omega)) (ax 18 (by omega))
        · intro id i1 i2
          rw [bT, bO, Rk, az 2 (by omega)]
          obtain ⟨a, c⟩ := hz.kd id i1 i2
          rw [if_pos (by omega)] at a
          exact ⟨a, c⟩
        · intro id i1 i2
          rw [bT, bO, Rk, Rl, az 4 (by omega)]
          obtain ⟨a, c⟩ := hz.lk id i1 i2
          exact ⟨a (by omega), c⟩
        · rw [bS, ax 6 (by omega)]; exact hx.sy
        · intro id i1 i2
          have q := (hx.rn id i1 i2).1
          rw [br, ax 7 (by omega)]
          refine ⟨q, fun _ => ?_⟩
          by_cases c : x.2 7 id = 1
          · rw [if_pos (show (fun id => decide (x.2 7 id = 1)) id = true from decide_eq_true c)]; exact c
          · rw [if_neg (fun e => c (of_decide_eq_true e))]
            omega
        · intro id i1 i2
          rw [bT, Rk]
          obtain ⟨a, c⟩ := (hz.f0 id i1 i2).1 (by omega)
          exact ⟨fun q => (a q).keep (az 3 (by omega)) (az 5 (by omega)) (az 8 (by omega)) (az 9 (by omega)), fun q p hp => by rw [az 8 (by omega)]; exact c q p hp⟩
        · intro id i1 i2
          rw [bO]
          obtain ⟨a, c⟩ := hz.f1 id i1 i2
          exact ⟨fun q => (a q).keep (az 3 (by omega)) (az 5 (by omega)) (az 8 (by omega)) (az 9 (by omega)), fun q p hp => by rw [az 8 (by omega)]; exact c q p hp⟩
        · intro id i1 i2
          rw [bS, bF]
          obtain ⟨a, c⟩ := hz.f2 id i1 i2
          exact ⟨fun q => (a q).keep (az 3 (by omega)) (az 5 (by omega)) (az 8 (by omega)) (az 9 (by omega)), fun q p hp => by rw [az 8 (by omega)]; exact c q p hp⟩
        · exact hz.po.keep (by rw [yx 11 (by decide) (by decide) (by decide)]; exact hx.po.se) (az 8 (by omega)) (az 10 (by omega)) wdy
      refine (checkpoint_z hF hB b1 (by rw [bT]; exact hR)).bd ?_
      rintro _ ⟨p, rfl, hp, p0, -⟩
      have ct0 : ¬ B.ct = 1 := by rw [b2, c0]; decide
      rw [if_neg ct0, bc] at hp
      refine AnsM.mk (c := 0) hp ?_ (fun _ => ?_)
      · rw [p0, yx 0 (by decide) (by decide) (by decide), x0]
      · show nI (p.1 7) = nI (fwdN A)
        have e7 := hp.ms.2.2.2.2
        have : P.ckp.fw = fwdN A := by
          unfold AB.ckp
          obtain ⟨u9, eu9⟩ : ∃ u9, u9 = inT P.T := ⟨_, rfl⟩
          rw [← eu9]
          unfold AB.ckpW
          rw [eP]
          simp only [wr_tp_tp, wr_tp_tl, wr_tp_tb, wr_tp_ol, wr_tp_dv, wr_tp_ct, wr_tp_us, wr_tp_fr, wr_tp_tk, wr_tp_rm, wr_tp_fw, wr_tp_T, wr_tp_O, wr_tp_S, wr_tp_F, wr_tp_rn, wr_tl_tp, wr_tl_tl, wr_tl_tb, wr_tl_ol, wr_tl_dv, wr_tl_ct, wr_tl_us, wr_tl_fr, wr_tl_tk, wr_tl_rm, wr_tl_fw, wr_tl_T, wr_tl_O, wr_tl_S, wr_tl_F, wr_tl_rn, wr_tb_tp, wr_tb_tl, wr_tb_tb, wr_tb_ol, wr_tb_dv, wr_tb_ct, wr_tb_us, wr_tb_fr, wr_tb_tk, wr_tb_rm, wr_tb_fw, wr_tb_T, wr_tb_O, wr_tb_S, wr_tb_F, wr_tb_rn, wr_ol_tp, wr_ol_tl, wr_ol_tb, wr_ol_ol, wr_ol_dv, wr_ol_ct, wr_ol_us, wr_ol_fr, wr_ol_tk, wr_ol_rm, wr_ol_fw, wr_ol_T, wr_ol_O, wr_ol_S, wr_ol_F, wr_ol_rn, wr_dv_tp, wr_dv_tl, wr_dv_tb, wr_dv_ol, wr_dv_dv, wr_dv_ct, wr_dv_us, wr_dv_fr, wr_dv_tk, wr_dv_rm, wr_dv_fw, wr_dv_T, wr_dv_O, wr_dv_S, wr_dv_F, wr_dv_rn, wr_ct_tp, wr_ct_tl, wr_ct_tb, wr_ct_ol, wr_ct_dv, wr_ct_ct, wr_ct_us, wr_ct_fr, wr_ct_tk, wr_ct_rm, wr_ct_fw, wr_ct_T, wr_ct_O, wr_ct_S, wr_ct_F, wr_ct_rn, wr_us_tp, wr_us_tl, wr_us_tb, wr_us_ol, wr_us_dv, wr_us_ct, wr_us_us, wr_us_fr, wr_us_tk, wr_us_rm, wr_us_fw, wr_us_T, wr_us_O, wr_us_S, wr_us_F, wr_us_rn, wr_fr_tp, wr_fr_tl, wr_fr_tb, wr_fr_ol, wr_fr_dv, wr_fr_ct, wr_fr_us, wr_fr_fr, wr_fr_tk, wr_fr_rm, wr_fr_fw, wr_fr_T, wr_fr_O, wr_fr_S, wr_fr_F, wr_fr_rn, wr_tk_tp, wr_tk_tl, wr_tk_tb, wr_tk_ol, wr_tk_dv, wr_tk_ct, wr_tk_us, wr_tk_fr, wr_tk_tk, wr_tk_rm, wr_tk_fw, wr_tk_T, wr_tk_O, wr_tk_S, wr_tk_F, wr_tk_rn, wr_rm_tp, wr_rm_tl, wr_rm_tb, wr_rm_ol, wr_rm_dv, wr_rm_ct, wr_rm_us, wr_rm_fr, wr_rm_tk, wr_rm_rm, wr_rm_fw, wr_rm_T, wr_rm_O, wr_rm_S, wr_rm_F, wr_rm_rn, wr_fw_tp, wr_fw_tl, wr_fw_tb, wr_fw_ol, wr_fw_dv, wr_fw_ct, wr_fw_us, wr_fw_fr, wr_fw_tk, wr_fw_rm, wr_fw_fw, wr_fw_T, wr_fw_O, wr_fw_S, wr_fw_F, wr_fw_rn, wr_T_tp, wr_T_tl, wr_T_tb, wr_T_ol, wr_T_dv, wr_T_ct, wr_T_us, wr_T_fr, wr_T_tk, wr_T_rm, wr_T_fw, wr_T_T, wr_T_O, wr_T_S, wr_T_F, wr_T_rn, wr_O_tp, wr_O_tl, wr_O_tb, wr_O_ol, wr_O_dv, wr_O_ct, wr_O_us, wr_O_fr, wr_O_tk, wr_O_rm, wr_O_fw, wr_O_T, wr_O_O, wr_O_S, wr_O_F, wr_O_rn, wr_S_tp, wr_S_tl, wr_S_tb, wr_S_ol, wr_S_dv, wr_S_ct, wr_S_us, wr_S_fr, wr_S_tk, wr_S_rm, wr_S_fw, wr_S_T, wr_S_O, wr_S_S, wr_S_F, wr_S_rn, wr_F_tp, wr_F_tl, wr_F_tb, wr_F_ol, wr_F_dv, wr_F_ct, wr_F_us, wr_F_fr, wr_F_tk, wr_F_rm, wr_F_fw, wr_F_T, wr_F_O, wr_F_S, wr_F_F, wr_F_rn, wr_rn_tp, wr_rn_tl, wr_rn_tb, wr_rn_ol, wr_rn_dv, wr_rn_ct, wr_rn_us, wr_rn_fr, wr_rn_tk, wr_rn_rm, wr_rn_fw, wr_rn_T, wr_rn_O, wr_rn_S, wr_rn_F, wr_rn_rn]
        rw [e7, this]
