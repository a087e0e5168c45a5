/-! the model: a checkpoint whole; room -/
theorem EN.copy {w y : NSt} {bd bi bl bn E bd' bi' bl' bn' : Nat} {ent : Nat → Nat → Nat} (h : EN w bd bi bl bn E ent) (h1 : ∀ k, k < E → y.2 bd' k = w.2 bd k) (h2 : ∀ k, k < E → y.2 bi' k = w.2 bi k) (h3 : ∀ k, k < E → y.2 bl' k = w.2 bl k) (h4 : ∀ t, t < 20 * E → y.2 bn' t = sxN (w.2 bn t % 256)) : EN y bd' bi' bl' bn' E ent := by
  have m : ∀ v, sxN (v % 256) % 256 = v % 256 := fun v => sxN_md (Nat.mod_lt _ (by decide))
  have e : ∀ k, k < E → nmK y bl' bn' k = nmK w bl bn k := fun k hk => by
    unfold nmK
    rw [h3 k hk]
    have : (fun i => if i < w.2 bl k then y.2 bn' (20 * k + i) % 256 else 0) = fun i => if i < w.2 bl k then w.2 bn (20 * k + i) % 256 else 0 := by
      funext i
      by_cases c : i < w.2 bl k
      · have := h.l20 hk
        rw [if_pos c, if_pos c, h4 _ (by omega), m]
      · rw [if_neg c, if_neg c]
    rw [this]
  refine ⟨h.le, fun k hk => ?_, fun k hk => ?_, fun k hk => ?_, fun k hk i hi => ?_, fun k k' hk hk' a b => ?_, fun d n q => ?_⟩
  · rw [e k hk, h1 k hk, h2 k hk]; exact h.en k hk
  · rw [h1 k hk]; exact h.rd k hk
  · rw [e k hk, h3 k hk]; exact h.nl k hk
  · rw [h3 k hk] at hi
    have := h.l20 hk
    rw [h4 _ (by omega), m]
  · rw [h1 k hk, h1 k' hk'] at a
    rw [e k hk, e k' hk'] at b
    exact h.dis k k' hk hk' a b
  · obtain ⟨k, k1, k2, k3⟩ := h.all d n q
    exact ⟨k, k1, by rw [h1 k k1]; exact k2, by rw [e k k1]; exact k3⟩
theorem ckn_b (FU : Nat) {y : NSt} (hE : y.1 12 ≤ 2400) (Q : Int32 × St → Prop) (K : ∀ z, z.1 = y.1 → (∀ a, a ≠ 18 → z.2 a = y.2 a) → (∀ t, t < 20 * y.1 12 → z.2 18 t = sxN (y.2 14 t % 256)) → (∀ t, z.2 18 t < 2 ^ 32) → Ev ((Mod_inUse FU (up z)).bind fun v1 => nx (setI (up z) 4 v1) fun g2 => nx (setI g2 5 (0 : Int32)) fun g3 => nx (setI g3 6 ((g3.1 6) + (1 : Int32))) fun g4 => some ((1 : Int32), g4)) Q) : ∀ (m j q : Nat) (z : NSt), j + m = 20 * y.1 12 → m < q → z.1 = y.1 → (∀ a, a ≠ 18 → z.2 a = y.2 a) → (∀ t, t < j → z.2 18 t = sxN (y.2 14 t % 256)) → (∀ t, z.2 18 t < 2 ^ 32) → Ev (Mod_checkpoint_b187 FU q (nI j) (up z)) Q := by
  intro m
  induction m with
  | zero =>
    intro j q z h1 h2 z1 za z18 zw
    obtain ⟨q, rfl⟩ : ∃ q9, q = q9 + 1 := ⟨q - 1, by omega⟩
    unfold Mod_checkpoint_b187
    rw [up1, z1, show (20 : Int32) * nI (y.1 12) = nI (20 * y.1 12) from pk_mul 20 _, if_pos (nI_le (by omega) (by omega))]
    exact K z z1 za (fun t ht => z18 t (by omega)) zw
  | succ m ih =>
    intro j q z h1 h2 z1 za z18 zw
    obtain ⟨q, rfl⟩ : ∃ q9, q = q9 + 1 := ⟨q - 1, by omega⟩
    unfold Mod_checkpoint_b187
    rw [up1, z1, show (20 : Int32) * nI (y.1 12) = nI (20 * y.1 12) from pk_mul 20 _, if_neg (nI_ge (by omega) (by omega)), rdA_z z 14 (by omega) (by decide), Option.bind_some, nby_n, wrA_z z 18 (by omega) (by decide), Option.bind_some, nI_1]
    refine ih (j + 1) q _ (by omega) (by omega) z1 (fun a ha => by rw [zA2, if_neg ha]; exact za a ha) (fun t ht => ?_) (fun t => ?_)
    · rw [zA2, if_pos rfl]
      by_cases c : t = j
      · rw [c, va_up_self, za 14 (by decide)]
      · rw [va_up_ne _ _ c]; exact z18 t (by omega)
    · rw [zA2, if_pos rfl]
      unfold va_up
      split
      · exact sxN_lt (Nat.mod_lt _ (by decide))
      · exact zw t
theorem cke_b (FU : Nat) {x : NSt} (hE : x.1 12 ≤ 2400) (hw : ∀ a i, x.2 a i < 2 ^ 32) (Q : Int32 × St → Prop) (K : ∀ y, y.1 = x.1 → (∀ a, a ≠ 15 → a ≠ 16 → a ≠ 17 → y.2 a = x.2 a) → (∀ k, k < x.1 12 → y.2 15 k = x.2 11 k ∧ y.2 16 k = x.2 12 k ∧ y.2 17 k = x.2 13 k) → (∀ a i, y.2 a i < 2 ^ 32) → Ev (Mod_checkpoint_b187 FU FU (0 : Int32) (up y)) Q) : ∀ (m i q : Nat) (y : NSt), i + m = x.1 12 → m < q → y.1 = x.1 → (∀ a, a ≠ 15 → a ≠ 16 → a ≠ 17 → y.2 a = x.2 a) → (∀ k, k < i → y.2 15 k = x.2 11 k ∧ y.2 16 k = x.2 12 k ∧ y.2 17 k = x.2 13 k) → (∀ a i, y.2 a i < 2 ^ 32) → Ev (Mod_checkpoint_b135 FU q (nI i) (up y)) Q := by
  intro m
  induction m with
  | zero =>
    intro i q y h1 h2 y1 ya yc yw
    obtain ⟨q, rfl⟩ : ∃ q9, q = q9 + 1 := ⟨q - 1, by omega⟩
    unfold Mod_checkpoint_b135
    rw [up1, y1, if_pos (nI_le (by omega) (by omega))]
    exact K y y1 ya (fun k hk => yc k (by omega)) yw
  | succ m ih =>
    intro i q y h1 h2 y1 ya yc yw
    obtain ⟨q, rfl⟩ : ∃ q9, q = q9 + 1 := ⟨q - 1, by omega⟩
    unfold Mod_checkpoint_b135
    rw [up1, y1, if_neg (nI_ge (by omega) (by omega)), rdA_z y 11 (by omega) (by decide), Option.bind_some, wrA_z y 15 (by omega) (by decide), Option.bind_some, rdA_z _ 12 (by omega) (by decide), Option.bind_some, wrA_z _ 16 (by omega) (by decide), Option.bind_some, rdA_z _ 13 (by omega) (by decide), Option.bind_some, wrA_z _ 17 (by omega) (by decide), Option.bind_some, nI_1]
    obtain ⟨z, ez⟩ : ∃ z, z = zA (zA (zA y 15 i (y.2 11 i)) 16 i ((zA y 15 i (y.2 11 i)).2 12 i)) 17 i ((zA (zA y 15 i (y.2 11 i)) 16 i ((zA y 15 i (y.2 11 i)).2 12 i)).2 13 i) := ⟨_, rfl⟩
    rw [← ez]
    have za : ∀ a, a ≠ 15 → a ≠ 16 → a ≠ 17 → z.2 a = y.2 a := fun a a1 a2 a3 => by rw [ez, zA2, if_neg a3, zA2, if_neg a2, zA2, if_neg a1]
    have z15 : z.2 15 = va_up (y.2 15) i (x.2 11 i) := by
      rw [ez, zA2, if_neg (by decide), zA2, if_neg (by decide), zA2, if_pos rfl, ya 11 (by decide) (by decide) (by decide)]
    have z16 : z.2 16 = va_up (y.2 16) i (x.2 12 i) := by
      rw [ez, zA2, if_neg (by decide), zA2, if_pos rfl, zA2, if_neg (by decide), zA2, if_neg (by decide), ya 12 (by decide) (by decide) (by decide)]
    have z17 : z.2 17 = va_up (y.2 17) i (x.2 13 i) := by
      rw [ez, zA2, if_pos rfl, zA2, if_neg (by decide), zA2, if_neg (by decide), zA2, if_neg (by decide), zA2, if_neg (by decide), ya 13 (by decide) (by decide) (by decide)]
    refine ih (i + 1) q z (by omega) (by omega) (by rw [ez]; exact y1) (fun a a1 a2 a3 => by rw [za a a1 a2 a3]; exact ya a a1 a2 a3) (fun k hk => ?_) (fun a j => ?_)
    · rw [z15, z16, z17]
      by_cases c : k = i
      · rw [c, va_up_self, va_up_self, va_up_self]; exact ⟨rfl, rfl, rfl⟩
      · rw [va_up_ne _ _ c, va_up_ne _ _ c, va_up_ne _ _ c]; exact yc k (by omega)
    · by_cases c5 : a = 15
      · rw [c5, z15]; unfold va_up; split
        · exact hw _ _
        · exact yw _ _
      · by_cases c6 : a = 16
        · rw [c6, z16]; unfold va_up; split
          · exact hw _ _
          · exact yw _ _
        · by_cases c7 : a = 17
          · rw [c7, z17]; unfold va_up; split
            · exact hw _ _
            · exact yw _ _
          · rw [za a c5 c6 c7]; exact yw a j
/-- over all ids -/
theorem cki_b {FU : Nat} (hF : 140000 < FU) {w : NSt} {A : AB} (hT : TFA A.T) (Q : Int32 × St → Prop) (hQ : ∀ z, CKI z w A 251 → Ev (nx (setI (up z) 13 ((up z).1 12)) fun g21 => Mod_checkpoint_b135 FU FU (0 : Int32) g21) Q) : ∀ (m i q : Nat) (y : NSt), 1 ≤ i → i + m = 251 → m < q → CKI y w A i → Ev (Mod_checkpoint_b11 FU q (nI i) (up y)) Q := by
  intro m
  induction m with
  | zero =>
    intro i q y i1 h1 h2 hy
    obtain ⟨q, rfl⟩ : ∃ q9, q = q9 + 1 := ⟨q - 1, by omega⟩
    have h1 : i = 251 := h1
    subst h1
    unfold Mod_checkpoint_b11
    rw [if_pos (show (250 : Int32) < nI 251 by decide)]
    exact hQ y hy
  | succ m ih =>
    intro i q y i1 h1 h2 hy
    obtain ⟨q, rfl⟩ : ∃ q9, q = q9 + 1 := ⟨q - 1, by omega⟩
    have i2 : i ≤ 250 := by omega
    obtain ⟨k1, k2⟩ := hy.kd i i1 i2
    rw [if_neg (Nat.lt_irrefl i)] at k2
    have hw2 := hy.po.wd 2 i
    have hw2' := hy.po.wd 2 (251 + i)
    rw [k1] at hw2
    rw [k2] at hw2'
    have go : ∀ z, CKI z w A (i + 1) → Ev (Mod_checkpoint_b11 FU q (nI (i + 1)) (up z)) Q := fun z hz => ih (i + 1) q z (by omega) (by omega) (by omega) hz
    unfold Mod_checkpoint_b11
    rw [if_neg (show ¬ (250 : Int32) < nI i from fun v => by
      rw [show (250 : Int32) = nI 250 from rfl, nI_ltI (by decide) (by omega)] at v
      omega), rdA_z y 2 (by omega) (by decide), Option.bind_some, k1]
    by_cases c : A.T.kd i = 1
    · rw [if_pos (show nI (A.T.kd i) = (1 : Int32) by rw [c]; rfl), show (0 : Int32) = nI 0 from rfl, show (1 : Int32) = nI 1 from rfl]
      have hp := (hy.f0 i i1 i2).1 c
      have hs := (hT.fv i c).smb
      have h5 : y.2 5 (251 * 0 + i) ≤ 1 := by rw [hp.sml]; exact hs
      refine (copyFile_z hF hy.po (fl := 0) (tl := 1) (by decide) (by decide) (by decide) i2 h5).bd ?_
      rintro _ ⟨x, rfl, x1, x2, x3, x4, x5, x6⟩
      have e8 : ∀ p, p < 391 → x.2 8 (pcN 1 i p) = y.2 8 (pcN 0 i p) := fun p hp => by
        rw [x6, if_pos (by unfold pcN; omega), show pcN 1 i p - pcN 1 i 0 = p by unfold pcN; omega]
      refine ck_end hF hT _ Q i1 i2 go hy x1 x2 (fun a _ a3 a5 a8 a10 => x3 a a3 a5 a8 a10) (fun j _ => by rw [x3 2 (by decide) (by decide) (by decide) (by decide)]) (fun j hj => by rw [x4, va_up_ne _ _ (by omega)]) (fun j hj => by rw [x5, va_up_ne _ _ (by omega)]) (fun l id p hl hid hp hne => ?_) ⟨fun _ => hp.mv ?_ ?_ e8 (x3 9 (by decide) (by decide) (by decide) (by decide)), fun q => absurd c q⟩
      · rw [x6, if_neg (fun q => hne ?_)]
        unfold pcN at q
        omega
      · rw [x4, va_up_self]
      · rw [x5, va_up_self]
    · rw [if_neg (fun v : nI (A.T.kd i) = (1 : Int32) => c ((eqN hw2 (c := 1) (by decide)).mp v)), show (251 : Int32) + nI i = nI (251 + i) from nI_add 251 i, rdA_z y 2 (by omega) (by decide), Option.bind_some, k2]
      by_cases d : A.O.kd i = 1
      · rw [if_pos (show nI (A.O.kd i) = (1 : Int32) by rw [d]; rfl), show (1 : Int32) = nI 1 from rfl]
        refine (drop_z hF hy.po (l := 1) (by decide) i2).bd ?_
        rintro _ ⟨x, rfl, x1, x2, x3, x4, x5, x6⟩
        refine ck_end hF hT _ Q i1 i2 go hy x1 x2 (fun a a2 a3 _ a8 a10 => x3 a a2 a3 a8 a10) (fun j hj => by rw [x4, va_up_ne _ _ (by omega)]) (fun j hj => by rw [x5, va_up_ne _ _ (by omega)]) (fun j hj => by rw [x3 5 (by decide) (by decide) (by decide) (by decide)]) (fun l id p hl hid hp hne => ?_) ⟨fun q => absurd q c, fun _ p hp => ?_⟩
        · rw [x6, if_neg (fun q => hne ?_)]
          unfold pcN at q
          omega
        · rw [x6, if_pos (by unfold pcN; omega)]
      · rw [if_neg (fun v : nI (A.O.kd i) = (1 : Int32) => d ((eqN hw2' (c := 1) (by decide)).mp v))]
        exact ck_end hF hT _ Q i1 i2 go hy hy.po rfl (fun _ _ _ _ _ _ => rfl) (fun _ _ => rfl) (fun _ _ => rfl) (fun _ _ => rfl) (fun _ _ _ _ _ _ _ => rfl) ⟨fun q => absurd q c, fun _ => (hy.f1 i i1 i2).2 (Nat.le_refl _) d⟩
theorem ckp_i (A : AB) (x t : Nat) : (A.ckpW x).T = A.T ∧ (A.ckpW x).O = A.T ∧ (A.ckpW x).S = (fun _ => false) ∧ (A.ckpW x).F = A.F ∧ (A.ckpW x).rn = (fun _ => false) := by
  unfold AB.ckpW
  simp only [wr_tp_tp, wr_tp_tl, wr_tp_tb, wr_tp_ol, wr_tp_dv, wr_tp_ct, wr_tp_us, wr_tp_fr, wr_tp_tk, wr_tp_rm, wr_tp_fw, wr_tp_T, wr_tp_O, wr_tp_S, wr_tp_F, wr_tp_rn, wr_tl_tp, wr_tl_tl, wr_tl_tb, wr_tl_ol, wr_tl_dv, wr_tl_ct, wr_tl_us, wr_tl_fr, wr_tl_tk, wr_tl_rm, wr_tl_fw, wr_tl_T, wr_tl_O, wr_tl_S, wr_tl_F, wr_tl_rn, wr_tb_tp, wr_tb_tl, wr_tb_tb, wr_tb_ol, wr_tb_dv, wr_tb_ct, wr_tb_us, wr_tb_fr, wr_tb_tk, wr_tb_rm, wr_tb_fw, wr_tb_T, wr_tb_O, wr_tb_S, wr_tb_F, wr_tb_rn, wr_ol_tp, wr_ol_tl, wr_ol_tb, wr_ol_ol, wr_ol_dv, wr_ol_ct, wr_ol_us, wr_ol_fr, wr_ol_tk, wr_ol_rm, wr_ol_fw, wr_ol_T, wr_ol_O, wr_ol_S, wr_ol_F, wr_ol_rn, wr_dv_tp, wr_dv_tl, wr_dv_tb, wr_dv_ol, wr_dv_dv, wr_dv_ct, wr_dv_us, wr_dv_fr, wr_dv_tk, wr_dv_rm, wr_dv_fw, wr_dv_T, wr_dv_O, wr_dv_S, wr_dv_F, wr_dv_rn, wr_ct_tp, wr_ct_tl, wr_ct_tb, wr_ct_ol, wr_ct_dv, wr_ct_ct, wr_ct_us, wr_ct_fr, wr_ct_tk, wr_ct_rm, wr_ct_fw, wr_ct_T, wr_ct_O, wr_ct_S, wr_ct_F, wr_ct_rn, wr_us_tp, wr_us_tl, wr_us_tb, wr_us_ol, wr_us_dv, wr_us_ct, wr_us_us, wr_us_fr, wr_us_tk, wr_us_rm, wr_us_fw, wr_us_T, wr_us_O, wr_us_S, wr_us_F, wr_us_rn, wr_fr_tp, wr_fr_tl, wr_fr_tb, wr_fr_ol, wr_fr_dv, wr_fr_ct, wr_fr_us, wr_fr_fr, wr_fr_tk, wr_fr_rm, wr_fr_fw, wr_fr_T, wr_fr_O, wr_fr_S, wr_fr_F, wr_fr_rn, wr_tk_tp, wr_tk_tl, wr_tk_tb, wr_tk_ol, wr_tk_dv, wr_tk_ct, wr_tk_us, wr_tk_fr, wr_tk_tk, wr_tk_rm, wr_tk_fw, wr_tk_T, wr_tk_O, wr_tk_S, wr_tk_F, wr_tk_rn, wr_rm_tp, wr_rm_tl, wr_rm_tb, wr_rm_ol, wr_rm_dv, wr_rm_ct, wr_rm_us, wr_rm_fr, wr_rm_tk, wr_rm_rm, wr_rm_fw, wr_rm_T, wr_rm_O, wr_rm_S, wr_rm_F, wr_rm_rn, wr_fw_tp, wr_fw_tl, wr_fw_tb, wr_fw_ol, wr_fw_dv, wr_fw_ct, wr_fw_us, wr_fw_fr, wr_fw_tk, wr_fw_rm, wr_fw_fw, wr_fw_T, wr_fw_O, wr_fw_S, wr_fw_F, wr_fw_rn, wr_T_tp, wr_T_tl, wr_T_tb, wr_T_ol, wr_T_dv, wr_T_ct, wr_T_us, wr_T_fr, wr_T_tk, wr_T_rm, wr_T_fw, wr_T_T, wr_T_O, wr_T_S, wr_T_F, wr_T_rn, wr_O_tp, wr_O_tl, wr_O_tb, wr_O_ol, wr_O_dv, wr_O_ct, wr_O_us, wr_O_fr, wr_O_tk, wr_O_rm, wr_O_fw, wr_O_T, wr_O_O, wr_O_S, wr_O_F, wr_O_rn, wr_S_tp, wr_S_tl, wr_S_tb, wr_S_ol, wr_S_dv, wr_S_ct, wr_S_us, wr_S_fr, wr_S_tk, wr_S_rm, wr_S_fw, wr_S_T, wr_S_O, wr_S_S, wr_S_F, wr_S_rn, wr_F_tp, wr_F_tl, wr_F_tb, wr_F_ol, wr_F_dv, wr_F_ct, wr_F_us, wr_F_fr, wr_F_tk, wr_F_rm, wr_F_fw, wr_F_T, wr_F_O, wr_F_S, wr_F_F, wr_F_rn, wr_rn_tp, wr_rn_tl, wr_rn_tb, wr_rn_ol, wr_rn_dv, wr_rn_ct, wr_rn_us, wr_rn_fr, wr_rn_tk, wr_rn_rm, wr_rn_fw, wr_rn_T, wr_rn_O, wr_rn_S, wr_rn_F, wr_rn_rn]
  exact ⟨trivial, trivial, trivial, trivial, trivial⟩
theorem checkpoint_b {FU : Nat} (hF : 140000 < FU) {w : NSt} {A : AB} (h : MI w A) (hT : TFA A.T) : Ev (Mod_checkpoint_b11 FU FU (1 : Int32) (up w)) fun r => ∃ y, r = (nI 1, up y) ∧ MI y A.ckp ∧ y.1 0 = w.1 0 ∧ SE y w := by
  have hE := h.en.le
  refine cki_b hF hT _ (fun z hz => ?_) 250 1 FU w (by decide) (by omega) (by omega) h.cki
  rw [up1, up_I, nx_eq]
  obtain ⟨x, ex⟩ : ∃ x, x = zI z 13 (z.1 12) := ⟨_, rfl⟩
  rw [← ex]
  have x1 : ∀ k, k ≠ 13 → x.1 k = w.1 k := fun k hk => by rw [ex, zI1, if_neg hk, hz.sc]
  have x13 : x.1 13 = w.1 12 := by rw [ex, zI1, if_pos rfl, hz.sc]
  have x2 : x.2 = z.2 := by rw [ex]; rfl
  have x12 := x1 12 (by decide)
  refine cke_b FU (x := x) (by rw [x12]; exact hE) (fun a i => by rw [x2]; exact hz.po.wd a i) _ (fun y y1 ya yc yw => ?_) (x.1 12) 0 FU x (by omega) (by rw [x12]; omega) rfl (fun _ _ _ _ => rfl) (fun k hk => by omega) (fun a i => by rw [x2]; exact hz.po.wd a i)
  refine ckn_b FU (y := y) (by rw [y1, x12]; exact hE) _ (fun v v1 va v18 vw => ?_) (20 * y.1 12) 0 FU y (by omega) (by rw [y1, x12]; omega) rfl (fun _ _ => rfl) (fun t ht => by omega) (fun t => yw 18 t)
  have s1 : ∀ k, k ≠ 13 → v.1 k = w.1 k := fun k hk => by rw [v1, y1, x1 k hk]
  have s13 : v.1 13 = w.1 12 := by rw [v1, y1, x13]
  have az : ∀ a, a ≤ 14 → v.2 a = z.2 a := fun a ha => by rw [va a (by omega), ya a (by omega) (by omega) (by omega), x2]
  have aw : ∀ a, a ≤ 1 ∨ a = 9 ∨ (11 ≤ a ∧ a ≤ 14) → v.2 a = w.2 a := fun a ha => by rw [az a (by omega), hz.ar a (by omega)]
  have wdv : ∀ a i, v.2 a i < 2 ^ 32 := fun a i => by
    by_cases c : a = 18
    · rw [c]; exact vw i
    · rw [va a c]; exact yw a i
  have hB : MI v (((A.w_O A.T).w_S (fun _ => false)).w_rn (fun _ => false)) := by
    obtain ⟨B, eB⟩ : ∃ B, B = ((A.w_O A.T).w_S (fun _ => false)).w_rn (fun _ => false) := ⟨_, rfl⟩
    rw [← eB]
    have bT : B.T = A.T := by rw [eB]; rfl
    have bO : B.O = A.T := by rw [eB]; rfl
    have bS : B.S = fun _ => false := by rw [eB]; rfl
    have bF : B.F = A.F := by rw [eB]; rfl
    have br : B.rn = fun _ => false := by rw [eB]; rfl
    have b1 : B.dv = A.dv := by rw [eB]; rfl
    have b2 : B.ct = A.ct := by rw [eB]; rfl
    have b3 : B.tl = A.tl := by rw [eB]; rfl
    have b4 : B.ol = A.ol := by rw [eB]; rfl
    have b5 : B.tp = A.tp := by rw [eB]; rfl
    have b6 : B.tb = A.tb := by rw [eB]; rfl
    have b7 : B.rm = A.rm ∧ B.us = A.us ∧ B.fr = A.fr ∧ B.tk = A.tk ∧ B.fw = A.fw := by rw [eB]; exact ⟨rfl, rfl, rfl, rfl, rfl⟩
    refine ⟨?_, ?_, ?_, ?_, ?_, ?_, ?_, ?_, ?_, ?_, ?_, ?_, ?_, ?_, ?_, ?_, ?_, ?_⟩
    · rw [b1, s1 1 (by decide), s1 2 (by decide)]; exact h.dv
    · rw [b7.1, b7.2.1, b7.2.2.1, b7.2.2.2.1, b7.2.2.2.2, s1 3 (by decide), s1 4 (by decide), s1 5 (by decide), s1 6 (by decide), s1 7 (by decide)]; exact h.ms
    · rw [b2, s1 8 (by decide)]; exact h.ct
    · rw [b1, b2]; exact h.cd
    · rw [b3, s1 9 (by decide)]; exact h.tl
    · rw [b4, s1 10 (by decide)]; exact h.ol
    · rw [b5, aw 0 (by omega)]; exact h.tp
    · rw [b6, b4, aw 1 (by omega)]; exact h.tb
    · rw [bT, s1 12 (by decide)]; exact h.en.keep (aw 11 (by omega)) (aw 12 (by omega)) (aw 13 (by omega)) (aw 14 (by omega))
    · rw [bO, s13]
      have q : ∀ a, 11 ≤ a → a ≤ 14 → x.2 a = w.2 a := fun a a1 a2 => by rw [x2, hz.ar a (by omega)]
      have r : ∀ a, 15 ≤ a → a ≤ 17 → v.2 a = y.2 a := fun a a1 a2 => va a (by omega)
      refine h.en.copy (fun k hk => ?_) (fun k hk => ?_) (fun k hk => ?_) (fun t ht => ?_)
      · rw [r 15 (by decide) (by decide), (yc k (by rw [x12]; exact hk)).1, q 11 (by decide) (by decide)]
      · rw [r 16 (by decide) (by decide), (yc k (by rw [x12]; exact hk)).2.1, q 12 (by decide) (by decide)]
      · rw [r 17 (by decide) (by decide), (yc k (by rw [x12]; exact hk)).2.2, q 13 (by decide) (by decide)]
      · rw [v18 t (by rw [y1, x12]; exact ht), ya 14 (by decide) (by decide) (by decide), q 14 (by decide) (by decide)]
    · intro id i1 i2
      rw [bT, bO, az 2 (by decide)]
      obtain ⟨a, b⟩ := hz.kd id i1 i2
      rw [if_pos (by omega)] at b
      exact ⟨a, b⟩
    · intro id i1 i2
      rw [bT, bO, az 4 (by decide)]
      obtain ⟨a, b⟩ := hz.lk id i1 i2
      exact ⟨a, b (by omega)⟩
    · intro id i1 i2
      rw [bS, az 6 (by decide)]
      have := hz.sy id i1 i2
      rw [if_pos (by omega)] at this
      rw [this]; rfl
    · intro id i1 i2
      rw [bT, br, az 7 (by decide), hz.rn id i1 i2 (by omega)]
      exact ⟨by decide, fun _ => rfl⟩
    · intro id i1 i2
      rw [bT]
      obtain ⟨a, b⟩ := hz.f0 id i1 i2
      exact ⟨fun q => (a q).keep (az 3 (by decide)) (az 5 (by decide)) (az 8 (by decide)) (az 9 (by decide)), fun q p hp => by rw [az 8 (by decide)]; exact b q p hp⟩
    · intro id i1 i2
      rw [bO]
      obtain ⟨a, b⟩ := (hz.f1 id i1 i2).1 (by omega)
      exact ⟨fun q => (a q).keep (az 3 (by decide)) (az 5 (by decide)) (az 8 (by decide)) (az 9 (by decide)), fun q p hp => by rw [az 8 (by decide)]; exact b q p hp⟩
    · intro id i1 i2
      rw [bS]
      exact ⟨fun q => Bool.noConfusion q, fun q p hp => by rw [az 8 (by decide)]; exact (hz.f2 id i1 i2).1 (by omega) p hp⟩
    · exact hz.po.keep (by rw [s1 11 (by decide)]; exact h.po.se) (az 8 (by decide)) (az 10 (by decide)) wdv
  obtain ⟨B, eB⟩ : ∃ B, B = ((A.w_O A.T).w_S (fun _ => false)).w_rn (fun _ => false) := ⟨_, rfl⟩
  rw [← eB] at hB
  have bT : B.T = A.T := by rw [eB]; rfl
  rw [inUse_z hF hB (by rw [bT]; exact hT), Option.bind_some, up_I, nx_eq, show (0 : Int32) = nI 0 from rfl, up_I, nx_eq, up1, show (1 : Int32) = nI 1 from rfl, nI_add, up_I, nx_eq]
  refine Ev.ret ⟨_, rfl, ?_, ?_, ?_, fun a a1 a2 => aw a (by omega)⟩
  · obtain ⟨u, eu⟩ : ∃ u, u = inT A.T := ⟨_, rfl⟩
    unfold AB.ckp
    rw [bT, ← eu]
    have hy : ∀ k, (zI (zI (zI v 4 u) 5 0) 6 ((zI (zI v 4 u) 5 0).1 6 + 1)).1 k = if k = 6 then v.1 6 + 1 else if k = 5 then 0 else if k = 4 then u else v.1 k := fun k => by
      by_cases c : k = 6
      · subst c
        rw [zI1, if_pos rfl, if_pos rfl, zI1, if_neg (by decide), zI1, if_neg (by decide)]
      · rw [zI1, if_neg c, if_neg c, zI1, zI1]
    obtain ⟨y', ey⟩ : ∃ y', y' = zI (zI (zI v 4 u) 5 0) 6 ((zI (zI v 4 u) 5 0).1 6 + 1) := ⟨_, rfl⟩
    have y2 : y'.2 = v.2 := by rw [ey]; rfl
    rw [← ey] at hy ⊢
    have o : ∀ k, k ≠ 4 → k ≠ 5 → k ≠ 6 → y'.1 k = v.1 k := fun k k4 k5 k6 => by rw [hy, if_neg k6, if_neg k5, if_neg k4]
    have hc := ckp_i A u 0
    have hd : (A.ckpW u).dv = A.dv ∧ (A.ckpW u).ct = A.ct ∧ (A.ckpW u).tl = A.tl ∧ (A.ckpW u).ol = A.ol ∧ (A.ckpW u).tp = A.tp ∧ (A.ckpW u).tb = A.tb ∧ (A.ckpW u).rm = A.rm ∧ (A.ckpW u).us = u ∧ (A.ckpW u).fr = 0 ∧ (A.ckpW u).tk = A.tk + 1 ∧ (A.ckpW u).fw = A.fw := by
      unfold AB.ckpW
      simp only [wr_tp_tp, wr_tp_tl, wr_tp_tb, wr_tp_ol, wr_tp_dv, wr_tp_ct, wr_tp_us, wr_tp_fr, wr_tp_tk, wr_tp_rm, wr_tp_fw, wr_tp_T, wr_tp_O, wr_tp_S, wr_tp_F, wr_tp_rn, wr_tl_tp, wr_tl_tl, wr_tl_tb, wr_tl_ol, wr_tl_dv, wr_tl_ct, wr_tl_us, wr_tl_fr, wr_tl_tk, wr_tl_rm, wr_tl_fw, wr_tl_T, wr_tl_O, wr_tl_S, wr_tl_F, wr_tl_rn, wr_tb_tp, wr_tb_tl, wr_tb_tb, wr_tb_ol, wr_tb_dv, wr_tb_ct, wr_tb_us, wr_tb_fr, wr_tb_tk, wr_tb_rm, wr_tb_fw, wr_tb_T, wr_tb_O, wr_tb_S, wr_tb_F, wr_tb_rn, wr_ol_tp, wr_ol_tl, wr_ol_tb, wr_ol_ol, wr_ol_dv, wr_ol_ct, wr_ol_us, wr_ol_fr, wr_ol_tk, wr_ol_rm, wr_ol_fw, wr_ol_T, wr_ol_O, wr_ol_S, wr_ol_F, wr_ol_rn, wr_dv_tp, wr_dv_tl, wr_dv_tb, wr_dv_ol, wr_dv_dv, wr_dv_ct, wr_dv_us, wr_dv_fr, wr_dv_tk, wr_dv_rm, wr_dv_fw, wr_dv_T, wr_dv_O, wr_dv_S, wr_dv_F, wr_dv_rn, wr_ct_tp, wr_ct_tl, wr_ct_tb, wr_ct_ol, wr_ct_dv, wr_ct_ct, wr_ct_us, wr_ct_fr, wr_ct_tk, wr_ct_rm, wr_ct_fw, wr_ct_T, wr_ct_O, wr_ct_S, wr_ct_F, wr_ct_rn, wr_us_tp, wr_us_tl, wr_us_tb, wr_us_ol, wr_us_dv, wr_us_ct, wr_us_us, wr_us_fr, wr_us_tk, wr_us_rm, wr_us_fw, wr_us_T, wr_us_O, wr_us_S, wr_us_F, wr_us_rn, wr_fr_tp, wr_fr_tl, wr_fr_tb, wr_fr_ol, wr_fr_dv, wr_fr_ct, wr_fr_us, wr_fr_fr, wr_fr_tk, wr_fr_rm, wr_fr_fw, wr_fr_T, wr_fr_O, wr_fr_S, wr_fr_F, wr_fr_rn, wr_tk_tp, wr_tk_tl, wr_tk_tb, wr_tk_ol, wr_tk_dv, wr_tk_ct, wr_tk_us, wr_tk_fr, wr_tk_tk, wr_tk_rm, wr_tk_fw, wr_tk_T, wr_tk_O, wr_tk_S, wr_tk_F, wr_tk_rn, wr_rm_tp, wr_rm_tl, wr_rm_tb, wr_rm_ol, wr_rm_dv, wr_rm_ct, wr_rm_us, wr_rm_fr, wr_rm_tk, wr_rm_rm, wr_rm_fw, wr_rm_T, wr_rm_O, wr_rm_S, wr_rm_F, wr_rm_rn, wr_fw_tp, wr_fw_tl, wr_fw_tb, wr_fw_ol, wr_fw_dv, wr_fw_ct, wr_fw_us, wr_fw_fr, wr_fw_tk, wr_fw_rm, wr_fw_fw, wr_fw_T, wr_fw_O, wr_fw_S, wr_fw_F, wr_fw_rn, wr_T_tp, wr_T_tl, wr_T_tb, wr_T_ol, wr_T_dv, wr_T_ct, wr_T_us, wr_T_fr, wr_T_tk, wr_T_rm, wr_T_fw, wr_T_T, wr_T_O, wr_T_S, wr_T_F, wr_T_rn, wr_O_tp, wr_O_tl, wr_O_tb, wr_O_ol, wr_O_dv, wr_O_ct, wr_O_us, wr_O_fr, wr_O_tk, wr_O_rm, wr_O_fw, wr_O_T, wr_O_O, wr_O_S, wr_O_F, wr_O_rn, wr_S_tp, wr_S_tl, wr_S_tb, wr_S_ol, wr_S_dv, wr_S_ct, wr_S_us, wr_S_fr, wr_S_tk, wr_S_rm, wr_S_fw, wr_S_T, wr_S_O, wr_S_S, wr_S_F, wr_S_rn, wr_F_tp, wr_F_tl, wr_F_tb, wr_F_ol, wr_F_dv, wr_F_ct, wr_F_us, wr_F_fr, wr_F_tk, wr_F_rm, wr_F_fw, wr_F_T, wr_F_O, wr_F_S, wr_F_F, wr_F_rn, wr_rn_tp, wr_rn_tl, wr_rn_tb, wr_rn_ol, wr_rn_dv, wr_rn_ct, wr_rn_us, wr_rn_fr, wr_rn_tk, wr_rn_rm, wr_rn_fw, wr_rn_T, wr_rn_O, wr_rn_S, wr_rn_F, wr_rn_rn]
      exact ⟨trivial, trivial, trivial, trivial, trivial, trivial, trivial, trivial, trivial, trivial, trivial⟩
    obtain ⟨C, eC⟩ : ∃ C, C = A.ckpW u := ⟨_, rfl⟩
    rw [← eC] at hc hd ⊢
    obtain ⟨d1, d2, d3, d4, d5, d6, d7, d8, d9, d10, d11⟩ := hd
    refine hB.io (fun k hk => o k (by omega) (by omega) (by omega)) (fun a _ => by rw [y2]) (fun a i => by rw [y2]; exact wdv a i) ?_ ?_ ?_ ?_ ?_ ?_ ?_ ?_ ?_ ?_ ?_ ?_ ?_
    · rw [d1, o 1 (by decide) (by decide) (by decide), o 2 (by decide) (by decide) (by decide), s1 1 (by decide), s1 2 (by decide)]; exact h.dv
    · obtain ⟨m1, m2, m3, m4, m5⟩ := h.ms
      rw [d7, d8, d9, d10, d11, o 3 (by decide) (by decide) (by decide), o 7 (by decide) (by decide) (by decide), hy 4, hy 5, hy 6, s1 3 (by decide), s1 7 (by decide), s1 6 (by decide), m4]
      exact ⟨m1, rfl, rfl, rfl, m5⟩
    · rw [d2, o 8 (by decide) (by decide) (by decide), s1 8 (by decide)]; exact h.ct
    · rw [d1, d2]; exact h.cd
    · rw [d3, o 9 (by decide) (by decide) (by decide), s1 9 (by decide)]; exact h.tl
    · rw [d4, o 10 (by decide) (by decide) (by decide), s1 10 (by decide)]; exact h.ol
    · rw [d5, y2, aw 0 (by omega)]; exact h.tp
    · rw [d6, d4, y2, aw 1 (by omega)]; exact h.tb
    · rw [hc.1, bT]
    · rw [hc.2.1, eB]; rfl
    · rw [hc.2.2.1, eB]; rfl
    · rw [hc.2.2.2.1, eB]; rfl
    · rw [hc.2.2.2.2, eB]; rfl
  · rw [zI1, if_neg (by decide), zI1, if_neg (by decide), zI1, if_neg (by decide)]
    exact s1 0 (by decide)
  · rw [zI1, if_neg (by decide), zI1, if_neg (by decide), zI1, if_neg (by decide)]
    exact s1 12 (by decide)
theorem checkpoint_z {FU : Nat} (hF : 140000 < FU) {w : NSt} {A : AB} (h : MI w A) (hd : A.dv = 2) (hT : TFA A.T) : Ev (Mod_checkpoint FU (up w)) fun r => ∃ y, r = (nI (if A.ct = 1 then 0 else 1), up y) ∧ MI y (if A.ct = 1 then A.off else A.ckp) ∧ y.1 0 = w.1 0 ∧ SE y w := by
  unfold Mod_checkpoint
  refine (isCut_z FU h hd).bd ?_
  rintro _ ⟨y, rfl, hy, y0, ye⟩
  by_cases c : A.ct = 1
  · rw [if_pos c] at hy
    rw [if_pos c, if_pos c, if_pos c]
    refine Ev.ret ⟨y, ?_, hy, y0, ye⟩
    rfl
  · rw [if_neg c] at hy
    rw [if_neg c, if_neg c, if_neg c]
    refine (checkpoint_b hF hy hT).mono ?_
    rintro _ ⟨x, rfl, hx, x0, xe⟩
    exact ⟨x, rfl, hx, by rw [x0, y0], xe.trans ye⟩
theorem rsv_b56 (FU : Nat) {w : NSt} {A : AB} (h : MI w A) {n c : Nat} (h0 : w.1 0 = c) (hc : c ≤ 3) : Ev (Mod_stops_b56 FU (nI n) (up w)) fun r => ∃ y, r = (nI (if c = 0 then 0 else 1), up y) ∧ MI y (if c = 0 then A.w_fr (A.fr + n) else A) ∧ y.1 0 = c ∧ SE y w := by
  unfold Mod_stops_b56
  by_cases d : c = 0
  · rw [up1, h0, if_pos (show nI c = (0 : Int32) by rw [d]; rfl), up1, h.ms.2.2.1, nI_add, up_I, nx_eq, up1, zI1, if_neg (show ¬ (0 : Nat) = 5 by decide), h0, if_pos (show nI c ≤ (0 : Int32) by rw [d]; decide), if_pos d]
    refine Ev.ret ⟨_, rfl, ?_, by rw [zI1, if_neg (by decide), h0], by rw [zI1, if_neg (by decide)], fun _ _ _ => rfl⟩
    rw [if_pos d]
    have o : ∀ k, k ≠ 5 → (zI w 5 (A.fr + n)).1 k = w.1 k := fun k hk => by rw [zI1, if_neg hk]
    refine h.io (fun k hk => o k (by omega)) (fun a _ => rfl) h.po.wd h.dv ?_ h.ct h.cd h.tl h.ol h.tp h.tb rfl rfl rfl rfl rfl
    exact ⟨h.ms.1, h.ms.2.1, rfl, h.ms.2.2.2.1, h.ms.2.2.2.2⟩
  · rw [up1, h0, if_neg (show ¬ nI c = (0 : Int32) from fun v => d ((nI_inj (by omega) (by decide)).mp v)), if_neg (show ¬ nI c ≤ (0 : Int32) from fun v => by
      rw [show (0 : Int32) = nI 0 from rfl, nI_leI (by omega) (by decide)] at v
      omega), if_neg d]
    refine Ev.ret ⟨w, rfl, ?_, h0, rfl, fun _ _ _ => rfl⟩
    rw [if_neg d]; exact h
theorem stops_z {FU : Nat} (hF : 140000 < FU) {w : NSt} {A : AB} (h : MI w A) (hd : A.dv = 2) (hT : TFA A.T) {n : Nat} (hn : n ≤ 10000) (hA : AI A 0) (hu : A.us < 2 ^ 28) (hi : inT A.T < 2 ^ 28) : Ev (Mod_stops FU (nI n) (up w)) fun r => ∃ y, r = (nI (if rsvC n A = 0 then 0 else 1), up y) ∧ MI y (rsvB n A) ∧ y.1 0 = rsvC n A ∧ SE y w := by
  have hr := hA.rb
  have hf : A.fr ≤ 1664 := by
    have := hA.ft
    omega
  unfold Mod_stops
  rw [nx_eq, show (0 : Int32) = nI 0 from rfl, up_I]
  obtain ⟨x, ex⟩ : ∃ x, x = zI w 0 0 := ⟨_, rfl⟩
  rw [← ex]
  have hx : MI x A := by rw [ex]; exact h.tw 0
  have x0 : x.1 0 = 0 := by rw [ex, zI1, if_pos rfl]
  have xe : SE x w := by rw [ex]; exact ⟨by rw [zI1, if_neg (by decide)], fun _ _ _ => rfl⟩
  have te : ∀ v c, SE (thw v c) v := fun v c => ⟨by unfold thw; rw [zI1, if_neg (by decide)], fun _ _ _ => rfl⟩
  obtain ⟨m1, m2, m3, -, -⟩ := hx.ms
  rw [up1, up1, up1, m1, m2, m3, nI_add, nI_add]
  unfold rsvC rsvB
  by_cases c : A.us + A.fr + n ≤ A.rm
  · rw [if_pos (nI_le c (by omega)), if_pos c, if_pos c]
    have := rsv_b56 FU hx (n := n) x0 (by decide)
    rw [if_pos rfl, if_pos rfl] at this
    exact this.mono (fun r => fun ⟨v, v1, v2, v3, v4⟩ => ⟨v, v1, v2, v3, v4.trans xe⟩)
  · rw [if_neg (nI_ge (by omega) (by omega)), if_neg c, if_neg c]
    refine (checkpoint_z hF hx hd hT).bd ?_
    rintro _ ⟨y, rfl, hy, y0, ye⟩
    by_cases t : A.ct = 1
    · rw [if_pos t] at hy
      rw [if_pos t, if_pos t, if_pos t, if_pos rfl, nx_eq, show (3 : Int32) = nI 3 from rfl, up_I, if_neg (by decide)]
      have := rsv_b56 FU (hy.tw 3) (n := n) (thw0 y 3) (by decide)
      rw [if_neg (by decide), if_neg (by decide)] at this
      exact this.mono (fun r => fun ⟨v, v1, v2, v3, v4⟩ => ⟨v, v1, v2, v3, (v4.trans (te y 3)).trans (ye.trans xe)⟩)
    · rw [if_neg t] at hy
      have hk : A.ckp.us = inT A.T ∧ A.ckp.rm = A.rm ∧ A.ckp.fr = 0 := by
        unfold AB.ckp
        obtain ⟨u, eu⟩ : ∃ u, u = inT A.T := ⟨_, rfl⟩
        rw [← eu]
        unfold AB.ckpW
        simp only [wr_tp_tp, wr_tp_tl, wr_tp_tb, wr_tp_ol, wr_tp_dv, wr_tp_ct, wr_tp_us, wr_tp_fr, wr_tp_tk, wr_tp_rm, wr_tp_fw, wr_tp_T, wr_tp_O, wr_tp_S, wr_tp_F, wr_tp_rn, wr_tl_tp, wr_tl_tl, wr_tl_tb, wr_tl_ol, wr_tl_dv, wr_tl_ct, wr_tl_us, wr_tl_fr, wr_tl_tk, wr_tl_rm, wr_tl_fw, wr_tl_T, wr_tl_O, wr_tl_S, wr_tl_F, wr_tl_rn, wr_tb_tp, wr_tb_tl, wr_tb_tb, wr_tb_ol, wr_tb_dv, wr_tb_ct, wr_tb_us, wr_tb_fr, wr_tb_tk, wr_tb_rm, wr_tb_fw, wr_tb_T, wr_tb_O, wr_tb_S, wr_tb_F, wr_tb_rn, wr_ol_tp, wr_ol_tl, wr_ol_tb, wr_ol_ol, wr_ol_dv, wr_ol_ct, wr_ol_us, wr_ol_fr, wr_ol_tk, wr_ol_rm, wr_ol_fw, wr_ol_T, wr_ol_O, wr_ol_S, wr_ol_F, wr_ol_rn, wr_dv_tp, wr_dv_tl, wr_dv_tb, wr_dv_ol, wr_dv_dv, wr_dv_ct, wr_dv_us, wr_dv_fr, wr_dv_tk, wr_dv_rm, wr_dv_fw, wr_dv_T, wr_dv_O, wr_dv_S, wr_dv_F, wr_dv_rn, wr_ct_tp, wr_ct_tl, wr_ct_tb, wr_ct_ol, wr_ct_dv, wr_ct_ct, wr_ct_us, wr_ct_fr, wr_ct_tk, wr_ct_rm, wr_ct_fw, wr_ct_T, wr_ct_O, wr_ct_S, wr_ct_F, wr_ct_rn, wr_us_tp, wr_us_tl, wr_us_tb, wr_us_ol, wr_us_dv, wr_us_ct, wr_us_us, wr_us_fr, wr_us_tk, wr_us_rm, wr_us_fw, wr_us_T, wr_us_O, wr_us_S, wr_us_F, wr_us_rn, wr_fr_tp, wr_fr_tl, wr_fr_tb, wr_fr_ol, wr_fr_dv, wr_fr_ct, wr_fr_us, wr_fr_fr, wr_fr_tk, wr_fr_rm, wr_fr_fw, wr_fr_T, wr_fr_O, wr_fr_S, wr_fr_F, wr_fr_rn, wr_tk_tp, wr_tk_tl, wr_tk_tb, wr_tk_ol, wr_tk_dv, wr_tk_ct, wr_tk_us, wr_tk_fr, wr_tk_tk, wr_tk_rm, wr_tk_fw, wr_tk_T, wr_tk_O, wr_tk_S, wr_tk_F, wr_tk_rn, wr_rm_tp, wr_rm_tl, wr_rm_tb, wr_rm_ol, wr_rm_dv, wr_rm_ct, wr_rm_us, wr_rm_fr, wr_rm_tk, wr_rm_rm, wr_rm_fw, wr_rm_T, wr_rm_O, wr_rm_S, wr_rm_F, wr_rm_rn, wr_fw_tp, wr_fw_tl, wr_fw_tb, wr_fw_ol, wr_fw_dv, wr_fw_ct, wr_fw_us, wr_fw_fr, wr_fw_tk, wr_fw_rm, wr_fw_fw, wr_fw_T, wr_fw_O, wr_fw_S, wr_fw_F, wr_fw_rn, wr_T_tp, wr_T_tl, wr_T_tb, wr_T_ol, wr_T_dv, wr_T_ct, wr_T_us, wr_T_fr, wr_T_tk, wr_T_rm, wr_T_fw, wr_T_T, wr_T_O, wr_T_S, wr_T_F, wr_T_rn, wr_O_tp, wr_O_tl, wr_O_tb, wr_O_ol, wr_O_dv, wr_O_ct, wr_O_us, wr_O_fr, wr_O_tk, wr_O_rm, wr_O_fw, wr_O_T, wr_O_O, wr_O_S, wr_O_F, wr_O_rn, wr_S_tp, wr_S_tl, wr_S_tb, wr_S_ol, wr_S_dv, wr_S_ct, wr_S_us, wr_S_fr, wr_S_tk, wr_S_rm, wr_S_fw, wr_S_T, wr_S_O, wr_S_S, wr_S_F, wr_S_rn, wr_F_tp, wr_F_tl, wr_F_tb, wr_F_ol, wr_F_dv, wr_F_ct, wr_F_us, wr_F_fr, wr_F_tk, wr_F_rm, wr_F_fw, wr_F_T, wr_F_O, wr_F_S, wr_F_F, wr_F_rn, wr_rn_tp, wr_rn_tl, wr_rn_tb, wr_rn_ol, wr_rn_dv, wr_rn_ct, wr_rn_us, wr_rn_fr, wr_rn_tk, wr_rn_rm, wr_rn_fw, wr_rn_T, wr_rn_O, wr_rn_S, wr_rn_F, wr_rn_rn]
        exact ⟨trivial, trivial, trivial⟩
      obtain ⟨n1, n2, n3, -, -⟩ := hy.ms
      rw [if_neg t, if_neg t, if_neg t, if_neg (show ¬ nI 1 = nI 0 by decide), up1, up1, n1, n2, hk.1, hk.2.1, nI_add]
      by_cases e : inT A.T + n ≤ A.rm
      · rw [if_pos (nI_le e (by omega)), if_pos e, if_pos e, if_pos rfl]
        have := rsv_b56 FU hy (n := n) (y0.trans x0) (by decide)
        rw [if_pos rfl, if_pos rfl, hk.2.2, Nat.zero_add] at this
        exact this.mono (fun r => fun ⟨v, v1, v2, v3, v4⟩ => ⟨v, v1, v2, v3, v4.trans (ye.trans xe)⟩)
      · rw [if_neg (nI_ge (by omega) (by omega)), if_neg e, if_neg e, if_neg (by decide), nx_eq, show (2 : Int32) = nI 2 from rfl, up_I]
        have := rsv_b56 FU (hy.tw 2) (n := n) (thw0 y 2) (by decide)
        rw [if_neg (by decide), if_neg (by decide)] at this
        exact this.mono (fun r => fun ⟨v, v1, v2, v3, v4⟩ => ⟨v, v1, v2, v3, (v4.trans (te y 2)).trans (ye.trans xe)⟩)
