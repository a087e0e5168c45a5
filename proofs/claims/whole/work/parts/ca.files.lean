/-! the model: finding, looking, counting, files -/
theorem rsvB_tp (n : Nat) (A : AB) : (rsvB n A).tp = A.tp := by
  unfold rsvB AB.ckp
  obtain ⟨u, eu⟩ : ∃ u, u = inT A.T := ⟨_, rfl⟩
  rw [← eu]
  unfold AB.ckpW AB.off
  repeat' split
  all_goals simp only [wr_tp_tp, wr_tp_tl, wr_tp_tb, wr_tp_ol, wr_tp_dv, wr_tp_ct, wr_tp_us, wr_tp_fr, wr_tp_tk, wr_tp_rm, wr_tp_fw, wr_tp_T, wr_tp_O, wr_tp_S, wr_tp_F, wr_tp_rn, wr_tl_tp, wr_tl_tl, wr_tl_tb, wr_tl_ol, wr_tl_dv, wr_tl_ct, wr_tl_us, wr_tl_fr, wr_tl_tk, wr_tl_rm, wr_tl_fw, wr_tl_T, wr_tl_O, wr_tl_S, wr_tl_F, wr_tl_rn, wr_tb_tp, wr_tb_tl, wr_tb_tb, wr_tb_ol, wr_tb_dv, wr_tb_ct, wr_tb_us, wr_tb_fr, wr_tb_tk, wr_tb_rm, wr_tb_fw, wr_tb_T, wr_tb_O, wr_tb_S, wr_tb_F, wr_tb_rn, wr_ol_tp, wr_ol_tl, wr_ol_tb, wr_ol_ol, wr_ol_dv, wr_ol_ct, wr_ol_us, wr_ol_fr, wr_ol_tk, wr_ol_rm, wr_ol_fw, wr_ol_T, wr_ol_O, wr_ol_S, wr_ol_F, wr_ol_rn, wr_dv_tp, wr_dv_tl, wr_dv_tb, wr_dv_ol, wr_dv_dv, wr_dv_ct, wr_dv_us, wr_dv_fr, wr_dv_tk, wr_dv_rm, wr_dv_fw, wr_dv_T, wr_dv_O, wr_dv_S, wr_dv_F, wr_dv_rn, wr_ct_tp, wr_ct_tl, wr_ct_tb, wr_ct_ol, wr_ct_dv, wr_ct_ct, wr_ct_us, wr_ct_fr, wr_ct_tk, wr_ct_rm, wr_ct_fw, wr_ct_T, wr_ct_O, wr_ct_S, wr_ct_F, wr_ct_rn, wr_us_tp, wr_us_tl, wr_us_tb, wr_us_ol, wr_us_dv, wr_us_ct, wr_us_us, wr_us_fr, wr_us_tk, wr_us_rm, wr_us_fw, wr_us_T, wr_us_O, wr_us_S, wr_us_F, wr_us_rn, wr_fr_tp, wr_fr_tl, wr_fr_tb, wr_fr_ol, wr_fr_dv, wr_fr_ct, wr_fr_us, wr_fr_fr, wr_fr_tk, wr_fr_rm, wr_fr_fw, wr_fr_T, wr_fr_O, wr_fr_S, wr_fr_F, wr_fr_rn, wr_tk_tp, wr_tk_tl, wr_tk_tb, wr_tk_ol, wr_tk_dv, wr_tk_ct, wr_tk_us, wr_tk_fr, wr_tk_tk, wr_tk_rm, wr_tk_fw, wr_tk_T, wr_tk_O, wr_tk_S, wr_tk_F, wr_tk_rn, wr_rm_tp, wr_rm_tl, wr_rm_tb, wr_rm_ol, wr_rm_dv, wr_rm_ct, wr_rm_us, wr_rm_fr, wr_rm_tk, wr_rm_rm, wr_rm_fw, wr_rm_T, wr_rm_O, wr_rm_S, wr_rm_F, wr_rm_rn, wr_fw_tp, wr_fw_tl, wr_fw_tb, wr_fw_ol, wr_fw_dv, wr_fw_ct, wr_fw_us, wr_fw_fr, wr_fw_tk, wr_fw_rm, wr_fw_fw, wr_fw_T, wr_fw_O, wr_fw_S, wr_fw_F, wr_fw_rn, wr_T_tp, wr_T_tl, wr_T_tb, wr_T_ol, wr_T_dv, wr_T_ct, wr_T_us, wr_T_fr, wr_T_tk, wr_T_rm, wr_T_fw, wr_T_T, wr_T_O, wr_T_S, wr_T_F, wr_T_rn, wr_O_tp, wr_O_tl, wr_O_tb, wr_O_ol, wr_O_dv, wr_O_ct, wr_O_us, wr_O_fr, wr_O_tk, wr_O_rm, wr_O_fw, wr_O_T, wr_O_O, wr_O_S, wr_O_F, wr_O_rn, wr_S_tp, wr_S_tl, wr_S_tb, wr_S_ol, wr_S_dv, wr_S_ct, wr_S_us, wr_S_fr, wr_S_tk, wr_S_rm, wr_S_fw, wr_S_T, wr_S_O, wr_S_S, wr_S_F, wr_S_rn, wr_F_tp, wr_F_tl, wr_F_tb, wr_F_ol, wr_F_dv, wr_F_ct, wr_F_us, wr_F_fr, wr_F_tk, wr_F_rm, wr_F_fw, wr_F_T, wr_F_O, wr_F_S, wr_F_F, wr_F_rn, wr_rn_tp, wr_rn_tl, wr_rn_tb, wr_rn_ol, wr_rn_dv, wr_rn_ct, wr_rn_us, wr_rn_fr, wr_rn_tk, wr_rn_rm, wr_rn_fw, wr_rn_T, wr_rn_O, wr_rn_S, wr_rn_F, wr_rn_rn]
theorem rsvB_dv {n : Nat} {A : AB} (h : rsvC n A = 0) : (rsvB n A).dv = A.dv := by
  unfold rsvC at h
  unfold rsvB AB.ckp
  obtain ⟨u, eu⟩ : ∃ u, u = inT A.T := ⟨_, rfl⟩
  rw [← eu] at h ⊢
  unfold AB.ckpW
  by_cases c : A.us + A.fr + n ≤ A.rm
  · rw [if_pos c]; rfl
  · rw [if_neg c] at h ⊢
    by_cases d : A.ct = 1
    · rw [if_pos d] at h; omega
    · rw [if_neg d]
      split <;> simp only [wr_tp_tp, wr_tp_tl, wr_tp_tb, wr_tp_ol, wr_tp_dv, wr_tp_ct, wr_tp_us, wr_tp_fr, wr_tp_tk, wr_tp_rm, wr_tp_fw, wr_tp_T, wr_tp_O, wr_tp_S, wr_tp_F, wr_tp_rn, wr_tl_tp, wr_tl_tl, wr_tl_tb, wr_tl_ol, wr_tl_dv, wr_tl_ct, wr_tl_us, wr_tl_fr, wr_tl_tk, wr_tl_rm, wr_tl_fw, wr_tl_T, wr_tl_O, wr_tl_S, wr_tl_F, wr_tl_rn, wr_tb_tp, wr_tb_tl, wr_tb_tb, wr_tb_ol, wr_tb_dv, wr_tb_ct, wr_tb_us, wr_tb_fr, wr_tb_tk, wr_tb_rm, wr_tb_fw, wr_tb_T, wr_tb_O, wr_tb_S, wr_tb_F, wr_tb_rn, wr_ol_tp, wr_ol_tl, wr_ol_tb, wr_ol_ol, wr_ol_dv, wr_ol_ct, wr_ol_us, wr_ol_fr, wr_ol_tk, wr_ol_rm, wr_ol_fw, wr_ol_T, wr_ol_O, wr_ol_S, wr_ol_F, wr_ol_rn, wr_dv_tp, wr_dv_tl, wr_dv_tb, wr_dv_ol, wr_dv_dv, wr_dv_ct, wr_dv_us, wr_dv_fr, wr_dv_tk, wr_dv_rm, wr_dv_fw, wr_dv_T, wr_dv_O, wr_dv_S, wr_dv_F, wr_dv_rn, wr_ct_tp, wr_ct_tl, wr_ct_tb, wr_ct_ol, wr_ct_dv, wr_ct_ct, wr_ct_us, wr_ct_fr, wr_ct_tk, wr_ct_rm, wr_ct_fw, wr_ct_T, wr_ct_O, wr_ct_S, wr_ct_F, wr_ct_rn, wr_us_tp, wr_us_tl, wr_us_tb, wr_us_ol, wr_us_dv, wr_us_ct, wr_us_us, wr_us_fr, wr_us_tk, wr_us_rm, wr_us_fw, wr_us_T, wr_us_O, wr_us_S, wr_us_F, wr_us_rn, wr_fr_tp, wr_fr_tl, wr_fr_tb, wr_fr_ol, wr_fr_dv, wr_fr_ct, wr_fr_us, wr_fr_fr, wr_fr_tk, wr_fr_rm, wr_fr_fw, wr_fr_T, wr_fr_O, wr_fr_S, wr_fr_F, wr_fr_rn, wr_tk_tp, wr_tk_tl, wr_tk_tb, wr_tk_ol, wr_tk_dv, wr_tk_ct, wr_tk_us, wr_tk_fr, wr_tk_tk, wr_tk_rm, wr_tk_fw, wr_tk_T, wr_tk_O, wr_tk_S, wr_tk_F, wr_tk_rn, wr_rm_tp, wr_rm_tl, wr_rm_tb, wr_rm_ol, wr_rm_dv, wr_rm_ct, wr_rm_us, wr_rm_fr, wr_rm_tk, wr_rm_rm, wr_rm_fw, wr_rm_T, wr_rm_O, wr_rm_S, wr_rm_F, wr_rm_rn, wr_fw_tp, wr_fw_tl, wr_fw_tb, wr_fw_ol, wr_fw_dv, wr_fw_ct, wr_fw_us, wr_fw_fr, wr_fw_tk, wr_fw_rm, wr_fw_fw, wr_fw_T, wr_fw_O, wr_fw_S, wr_fw_F, wr_fw_rn, wr_T_tp, wr_T_tl, wr_T_tb, wr_T_ol, wr_T_dv, wr_T_ct, wr_T_us, wr_T_fr, wr_T_tk, wr_T_rm, wr_T_fw, wr_T_T, wr_T_O, wr_T_S, wr_T_F, wr_T_rn, wr_O_tp, wr_O_tl, wr_O_tb, wr_O_ol, wr_O_dv, wr_O_ct, wr_O_us, wr_O_fr, wr_O_tk, wr_O_rm, wr_O_fw, wr_O_T, wr_O_O, wr_O_S, wr_O_F, wr_O_rn, wr_S_tp, wr_S_tl, wr_S_tb, wr_S_ol, wr_S_dv, wr_S_ct, wr_S_us, wr_S_fr, wr_S_tk, wr_S_rm, wr_S_fw, wr_S_T, wr_S_O, wr_S_S, wr_S_F, wr_S_rn, wr_F_tp, wr_F_tl, wr_F_tb, wr_F_ol, wr_F_dv, wr_F_ct, wr_F_us, wr_F_fr, wr_F_tk, wr_F_rm, wr_F_fw, wr_F_T, wr_F_O, wr_F_S, wr_F_F, wr_F_rn, wr_rn_tp, wr_rn_tl, wr_rn_tb, wr_rn_ol, wr_rn_dv, wr_rn_ct, wr_rn_us, wr_rn_fr, wr_rn_tk, wr_rn_rm, wr_rn_fw, wr_rn_T, wr_rn_O, wr_rn_S, wr_rn_F, wr_rn_rn]
theorem mo_find {FU : Nat} (hF : 140000 < FU) {w : NSt} {A : AB} (h : MH w A) {d n : Nat} (hd' : d < 2 ^ 32) (hn : n < 2 ^ 32) : AnsM (Mod_find FU (nI d) (nI n) (up w)) (findA d n A).1 (findA d n A) := by
  unfold Mod_find findA
  refine off_m FU h.mi (fun x => if_neg n1) (fun hd hx x0 => ?_)
  obtain ⟨x, ex⟩ : ∃ x, x = thw w 0 := ⟨_, rfl⟩
  rw [← ex] at hx x0 ⊢
  have hT := (h.tt hd).t
  have bad : AnsM (Mod_find_b27 FU (nI d) (nI n) (up x)) 1 (1, 0, A.w_tl 0) := by
    unfold Mod_find_b27 Mod_find_b32 Mod_find_b48 Mod_done
    rw [if_neg (show ¬ (1 : Int32) = 0 by decide), nx_eq, show (0 : Int32) = nI 0 from rfl, up_I, Option.bind_some]
    exact thr_m FU hx.tl0 (a := 1) (b := 0) (by decide) (by decide) (fun x => if_neg n1) (fun _ => rfl) (fun q => by cases q) (fun q => by cases q)
  rw [if_pos i00, show (2 : Int32) = nI 2 from rfl, is_z FU hx hT hd' (by decide), Option.bind_some]
  by_cases c1 : A.T.kd d = 2
  · rw [if_pos c1, if_neg n1, show (0 : Int32) = nI 0 from rfl, moName_z hF hx (by decide) hn, Option.bind_some]
    by_cases c2 : nmOk A.tp A.tl 0 n = true
    · rw [if_pos c2, if_neg (show ¬ nI 1 = nI 0 by decide), if_neg (show ¬ ¬ (nmOk A.tp A.tl 0 n = true ∧ A.T.kd d = 2) from fun q => q ⟨c2, c1⟩)]
      unfold Mod_find_b32 Mod_find_b48 Mod_done
      rw [if_pos i00, show (0 : Int32) = nI 0 from rfl]
      rcases seek_z hF hx hd' c2 with ⟨k, k1, -, -, k4, k5, k6⟩ | ⟨k1, k2⟩
      · have hE := hx.en.le
        rw [k6, Option.bind_some, nx_eq, up_I, Option.bind_some]
        refine thr_m FU hx.tl0 (a := 0) (b := 0) (by decide) (by decide) (fun x => if_neg n1) (fun q => by cases q) (fun _ q => by cases q) (fun _ _ hy y0 => ?_)
        rw [if_pos rfl, if_pos (nI_le (Nat.zero_le _) (by omega)), rdA_z _ 12 (by omega) (by decide), Option.bind_some, if_neg k5]
        refine AnsM.mk hy y0 (fun _ => ?_)
        show nI (x.2 12 k) = _
        rw [k4]
      · rw [k2, Option.bind_some, nx_eq, up_I, Option.bind_some]
        refine thr_m FU hx.tl0 (a := 0) (b := 0) (by decide) (by decide) (fun x => if_neg n1) (fun q => by cases q) (fun _ q => by cases q) (fun _ _ hy y0 => ?_)
        rw [if_pos rfl, if_neg (show ¬ nI 0 ≤ (-1 : Int32) by decide), if_pos k1]
        exact AnsM.mk hy y0 (fun _ => neg_I.symm)
    · rw [if_neg c2, if_pos rfl, if_pos (show ¬ (nmOk A.tp A.tl 0 n = true ∧ A.T.kd d = 2) from fun q => c2 q.1)]
      exact bad
  · rw [if_neg c1, if_pos i00, if_pos (show ¬ (nmOk A.tp A.tl 0 n = true ∧ A.T.kd d = 2) from fun q => c1 q.2)]
    exact bad
theorem sx255 : ∀ b, b < 256 → nI (sxN b) &&& (255 : Int32) = nI b := by decide +kernel
theorem mo_byte (FU : Nat) {w : NSt} {A : AB} (h : MI w A) {i : Nat} (hi : i < 2 ^ 32) : AnsM (Mod_byteAt FU (nI i) (up w)) (byteA i A).1 (byteA i A) := by
  unfold Mod_byteAt Mod_byteAt_b10 byteA
  have ol1 := h.ol.1
  have ol2 := h.ol.2
  by_cases c : i < 2 ^ 31
  · rw [if_pos (show (0 : Int32) ≤ nI i from nI_le (Nat.zero_le _) c), if_pos c]
    refine thr_m FU h (a := 0) (b := 0) (by decide) (by decide) (fun x => if_neg n1) (fun q => by cases q) (fun _ q => by cases q) (fun _ _ hy y0 => ?_)
    rw [if_pos i00, up1, hy.ol.1]
    by_cases d : i < A.ol
    · rw [if_neg (nI_ge (by omega) (by omega)), if_pos d, rdA_z _ 1 (by omega) (by decide), Option.bind_some, (hy.tb i d).1, sx255 _ (hy.tb i d).2]
      exact AnsM.mk hy y0 (fun _ => rfl)
    · rw [if_pos (nI_le (by omega) (by omega)), if_neg d]
      exact AnsM.mk hy y0 (fun _ => neg_I.symm)
  · have q : ¬ (0 : Int32) ≤ nI i := fun v => by
      have : nI i < nI 0 := (sLt hi (by decide)).mpr (Or.inr (by omega))
      exact Int32.lt_irrefl (Int32.lt_of_le_of_lt v this)
    rw [if_neg q, if_neg c]
    exact thr_m FU h (a := 1) (b := 0) (by decide) (by decide) (fun x => if_neg n1) (fun _ => rfl) (fun q => by cases q) (fun q => by cases q)
theorem mo_look {FU : Nat} (hF : 140000 < FU) {w : NSt} {A : AB} (h : MH w A) {id k : Nat} (hi : id < 2 ^ 32) (hk : k < 2 ^ 32) : AnsM (Mod_look FU (nI id) (nI k) (up w)) (lookA id k A).1 (lookA id k A) := by
  unfold Mod_look lookA
  refine off_m FU h.mi (fun x => if_neg n1) (fun hd hx x0 => ?_)
  obtain ⟨x, ex⟩ : ∃ x, x = thw w 0 := ⟨_, rfl⟩
  rw [← ex] at hx x0 ⊢
  have hT := (h.tt hd).t
  rw [if_pos i00, show (4 : Int32) = nI 4 from rfl, show (0 : Int32) = nI 0 from rfl, in_z FU _ hk (by decide) (by decide), Option.bind_some]
  unfold Mod_look_b24
  by_cases c : 4 < k
  · rw [if_neg (show ¬ (0 ≤ k ∧ k ≤ 4) by omega), if_pos rfl, if_pos c]
    exact thr_m FU hx (a := 1) (b := 0) (by decide) (by decide) (fun x => if_neg n1) (fun _ => rfl) (fun q => by cases q) (fun q => by cases q)
  · rw [if_pos (show 0 ≤ k ∧ k ≤ 4 by omega), if_neg (show ¬ nI 1 = nI 0 by decide), if_neg c]
    refine thr_m FU hx (a := 0) (b := 0) (by decide) (by decide) (fun x => if_neg n1) (fun q => by cases q) (fun _ q => by cases q) (fun _ _ hy y0 => ?_)
    obtain ⟨y, ey⟩ : ∃ y, y = thw x 0 := ⟨_, rfl⟩
    rw [← ey] at hy y0 ⊢
    rw [if_pos i00, isId_z FU _ hi, Option.bind_some]
    by_cases i12 : 1 ≤ id ∧ id ≤ 250
    · obtain ⟨i1, i2⟩ := i12
      have e2 := (hy.kd id i1 i2).1
      have hw2 := hy.po.wd 2 id
      rw [e2] at hw2
      rw [if_pos (show 1 ≤ id ∧ id ≤ 250 from ⟨i1, i2⟩), if_neg n1, rdA_z y 2 (by omega) (by decide), Option.bind_some, e2]
      by_cases k0 : A.T.kd id = 0
      · rw [if_pos (show nI (A.T.kd id) = (0 : Int32) by rw [k0]; rfl)]
        refine AnsM.mk hy y0 (fun _ => ?_)
        unfold lookN
        rw [if_pos k0]; rfl
      · rw [if_neg (ne0_I hw2 k0), Option.bind_some]
        have kb := (hT.rng id k0).2.2
        have ans : ∀ v : Int32, v = nI (lookN A.T id k) → AnsM (some (v, up y)) 0 (0, lookN A.T id k, A) := fun v hv => AnsM.mk hy y0 (fun _ => hv)
        have hL : lookN A.T id k = if k = 0 then A.T.kd id else if k = 1 then (if A.T.kd id = 1 then (A.T.fil id).sz else nmc (A.T.ent id)) else if k = 2 then (if A.T.kd id = 1 then A.T.lk id else 1) else if k = 3 then blT A.T id else (if A.T.kd id = 1 ∧ (A.T.fil id).sm = 1 then 1 else 0) := by
          unfold lookN
          rw [if_neg k0]
        have kI : ∀ c : Nat, c ≤ 3 → (nI k = nI c ↔ k = c) := fun c hc => nI_inj hk (by omega)
        unfold Mod_look_b66
        by_cases a0 : k = 0
        · rw [if_pos a0] at hL
          have : nI k = (0 : Int32) := by rw [a0]; rfl
          rw [if_pos this, if_pos this, rdA_z y 2 (by omega) (by decide), Option.bind_some, e2]
          split <;> exact ans _ (by rw [hL])
        · rw [if_neg a0] at hL
          have b0 : ¬ nI k = (0 : Int32) := fun v => a0 ((kI 0 (by decide)).mp v)
          rw [if_neg b0, if_neg b0]
          by_cases a1 : k = 1
          · rw [if_pos a1] at hL
            have : nI k = (1 : Int32) := by rw [a1]; rfl
            rw [if_pos this, if_pos this]
            by_cases k1 : A.T.kd id = 1
            · have hp := (hy.f0 id i1 i2).1 k1
              have e3 : y.2 3 id = (A.T.fil id).sz := by
                have := hp.sz
                rw [show 251 * 0 + id = id by omega] at this
                exact this
              rw [if_pos (show nI (A.T.kd id) = (1 : Int32) by rw [k1]; rfl), if_neg (show ¬ (1 : Int32) = 0 by decide), rdA_z y 3 (by omega) (by decide), Option.bind_some, e3]
              exact ans _ (by rw [hL, if_pos k1])
            · rw [if_neg (fun v : nI (A.T.kd id) = (1 : Int32) => k1 ((eqN hw2 (c := 1) (by decide)).mp v)), if_pos rfl, namesOf_z hF hy hi, Option.bind_some]
              exact ans _ (by rw [hL, if_neg k1])
          · rw [if_neg a1] at hL
            have b1 : ¬ nI k = (1 : Int32) := fun v => a1 ((kI 1 (by decide)).mp v)
            rw [if_neg b1, if_neg b1]
            by_cases a2 : k = 2
            · rw [if_pos a2] at hL
              have : nI k = (2 : Int32) := by rw [a2]; rfl
              rw [if_pos this, if_pos this]
              by_cases k1 : A.T.kd id = 1
              · rw [if_pos (show nI (A.T.kd id) = (1 : Int32) by rw [k1]; rfl), if_neg (show ¬ (1 : Int32) = 0 by decide), rdA_z y 4 (by omega) (by decide), Option.bind_some, (hy.lk id i1 i2).1 k1]
                exact ans _ (by rw [hL, if_pos k1])
              · rw [if_neg (fun v : nI (A.T.kd id) = (1 : Int32) => k1 ((eqN hw2 (c := 1) (by decide)).mp v)), if_pos rfl]
                exact ans _ (by rw [hL, if_neg k1]; rfl)
            · rw [if_neg a2] at hL
              have b2 : ¬ nI k = (2 : Int32) := fun v => a2 ((kI 2 (by decide)).mp v)
              rw [if_neg b2, if_neg b2]
              by_cases a3 : k = 3
              · rw [if_pos a3] at hL
                have : nI k = (3 : Int32) := by rw [a3]; rfl
                rw [if_pos this, if_pos this, blocksOf_m hF hy hT i1 i2, Option.bind_some]
                split <;> exact ans _ (by rw [hL])
              · rw [if_neg a3] at hL
                have b3 : ¬ nI k = (3 : Int32) := fun v => a3 ((kI 3 (by decide)).mp v)
                rw [if_neg b3, if_neg b3]
                by_cases k1 : A.T.kd id = 1
                · have hp := (hy.f0 id i1 i2).1 k1
                  have hs := (hT.fv id k1).smb
                  have e5 : y.2 5 id = (A.T.fil id).sm := by
                    have := hp.sml
                    rw [show 251 * 0 + id = id by omega] at this
                    exact this
                  rw [if_pos (show nI (A.T.kd id) = (1 : Int32) by rw [k1]; rfl), if_neg (show ¬ (1 : Int32) = 0 by decide), rdA_z y 5 (by omega) (by decide), Option.bind_some, e5]
                  by_cases s1 : (A.T.fil id).sm = 1
                  · rw [s1, if_neg n1]
                    exact ans _ (by rw [hL, if_pos ⟨k1, s1⟩]; rfl)
                  · rw [show (A.T.fil id).sm = 0 by omega, if_pos i00]
                    exact ans _ (by rw [hL, if_neg (fun v => s1 v.2)]; rfl)
                · rw [if_neg (fun v : nI (A.T.kd id) = (1 : Int32) => k1 ((eqN hw2 (c := 1) (by decide)).mp v)), if_pos rfl]
                  exact ans _ (by rw [hL, if_neg (fun v => k1 v.1)]; rfl)
    · rw [if_neg i12, if_pos i00]
      refine AnsM.mk hy y0 (fun _ => ?_)
      unfold lookN
      rw [if_pos (hx.kd0 hT i12)]; rfl
theorem ids_b (FU : Nat) {w : NSt} {A : AB} (h : MI w A) : ∀ (m i q c : Nat), 1 ≤ i → i + m = 251 → m < q → Mod_ids_b4 FU q (nI c) (nI i) (up w) = some (nI (c + sm (fun j => if A.T.kd (i + j) = 0 then 0 else 1) m)) := by
  intro m
  induction m with
  | zero =>
    intro i q c i1 h1 h2
    obtain ⟨q, rfl⟩ : ∃ q9, q = q9 + 1 := ⟨q - 1, by omega⟩
    have h1 : i = 251 := h1
    subst h1
    unfold Mod_ids_b4
    rw [if_pos (show (250 : Int32) < nI 251 by decide)]
    rfl
  | succ m ih =>
    intro i q c i1 h1 h2
    obtain ⟨q, rfl⟩ : ∃ q9, q = q9 + 1 := ⟨q - 1, by omega⟩
    unfold Mod_ids_b4 Mod_ids_b26
    have e2 := (h.kd i i1 (by omega)).1
    have hw2 := h.po.wd 2 i
    rw [e2] at hw2
    have e : sm (fun j => if A.T.kd (i + j) = 0 then 0 else 1) (m + 1) = (if A.T.kd i = 0 then 0 else 1) + sm (fun j => if A.T.kd (i + 1 + j) = 0 then 0 else 1) m := by
      rw [Nat.add_comm m 1, sm_cut]
      congr 1
      · exact Nat.zero_add _
      · exact sm_congr (fun t _ => by rw [show i + (1 + t) = i + 1 + t by omega])
    rw [if_neg (show ¬ (250 : Int32) < nI i from fun v => by
      rw [show (250 : Int32) = nI 250 from rfl, nI_ltI (by decide) (by omega)] at v
      omega), rdA_z w 2 (by omega) (by decide), Option.bind_some, e2, e]
    by_cases c0 : A.T.kd i = 0
    · rw [if_pos (show nI (A.T.kd i) = (0 : Int32) by rw [c0]; rfl), if_pos c0, show nI c + (0 : Int32) = nI c from Int32.add_zero _, nI_1, ih (i + 1) q c (by omega) (by omega) (by omega), Nat.zero_add]
    · rw [if_neg (ne0_I hw2 c0), if_neg c0, nI_1, nI_1, ih (i + 1) q (c + 1) (by omega) (by omega) (by omega), Nat.add_assoc]
theorem mo_count {FU : Nat} (hF : 140000 < FU) {w : NSt} {A : AB} (h : MH w A) {k : Nat} (hk : k < 2 ^ 32) : AnsM (Mod_count FU (nI k) (up w)) (countA k A).1 (countA k A) := by
  unfold Mod_count countA
  refine off_m FU h.mi (fun x => if_neg n1) (fun hd hx x0 => ?_)
  obtain ⟨x, ex⟩ : ∃ x, x = thw w 0 := ⟨_, rfl⟩
  rw [← ex] at hx x0 ⊢
  have hT := (h.tt hd).t
  rw [if_pos i00, show (5 : Int32) = nI 5 from rfl, show (0 : Int32) = nI 0 from rfl, in_z FU _ hk (by decide) (by decide), Option.bind_some]
  unfold Mod_count_b24
  by_cases c : 5 < k
  · rw [if_neg (show ¬ (0 ≤ k ∧ k ≤ 5) by omega), if_pos rfl, if_pos c]
    exact thr_m FU hx (a := 1) (b := 0) (by decide) (by decide) (fun x => if_neg n1) (fun _ => rfl) (fun q => by cases q) (fun q => by cases q)
  · rw [if_pos (show 0 ≤ k ∧ k ≤ 5 by omega), if_neg (show ¬ nI 1 = nI 0 by decide), if_neg c]
    refine thr_m FU hx (a := 0) (b := 0) (by decide) (by decide) (fun x => if_neg n1) (fun q => by cases q) (fun _ q => by cases q) (fun _ _ hy y0 => ?_)
    obtain ⟨y, ey⟩ : ∃ y, y = thw x 0 := ⟨_, rfl⟩
    rw [← ey] at hy y0 ⊢
    obtain ⟨-, m2, m3, m4, m5⟩ := hy.ms
    have kI : ∀ c : Nat, c ≤ 5 → (nI k = nI c ↔ k = c) := fun c hc => nI_inj hk (by omega)
    rw [if_pos i00]
    by_cases a0 : k = 0
    · rw [if_pos (show nI k = (0 : Int32) by rw [a0]; rfl), inUse_z hF hy hT, Option.bind_some, if_pos a0]
      exact AnsM.mk hy y0 (fun _ => rfl)
    · rw [if_neg (fun v : nI k = (0 : Int32) => a0 ((kI 0 (by decide)).mp v)), if_neg a0]
      by_cases a1 : k = 1
      · rw [if_pos (show nI k = (1 : Int32) by rw [a1]; rfl), if_pos a1, up1, m2]
        exact AnsM.mk hy y0 (fun _ => rfl)
      · rw [if_neg (fun v : nI k = (1 : Int32) => a1 ((kI 1 (by decide)).mp v)), if_neg a1]
        by_cases a2 : k = 2
        · rw [if_pos (show nI k = (2 : Int32) by rw [a2]; rfl), if_pos a2, up1, m3]
          exact AnsM.mk hy y0 (fun _ => rfl)
        · rw [if_neg (fun v : nI k = (2 : Int32) => a2 ((kI 2 (by decide)).mp v)), if_neg a2]
          by_cases a3 : k = 3
          · rw [if_pos (show nI k = (3 : Int32) by rw [a3]; rfl), if_pos a3, up1, m4]
            exact AnsM.mk hy y0 (fun _ => rfl)
          · rw [if_neg (fun v : nI k = (3 : Int32) => a3 ((kI 3 (by decide)).mp v)), if_neg a3]
            by_cases a4 : k = 4
            · rw [if_pos (show nI k = (4 : Int32) by rw [a4]; rfl), if_pos a4, up1, m5]
              exact AnsM.mk hy y0 (fun _ => rfl)
            · rw [if_neg (fun v : nI k = (4 : Int32) => a4 ((kI 4 (by decide)).mp v)), if_neg a4]
              unfold Mod_ids
              have := ids_b FU hy 250 1 FU 0 (by decide) (by omega) (by omega)
              rw [Nat.zero_add] at this
              rw [show Mod_ids_b4 FU FU (0 : Int32) (1 : Int32) (up y) = some (nI (idsT A.T)) from this, Option.bind_some]
              exact AnsM.mk hy y0 (fun _ => rfl)
theorem mo_trunc {FU : Nat} (hF : 140000 < FU) {w : NSt} {A : AB} (h : MH w A) {f s : Nat} (hf : f < 2 ^ 32) (hs : s < 2 ^ 32) : AnsV (Mod_truncate FU (nI f) (nI s) (up w)) (truncA f s A).1 (truncA f s A) := by
  unfold Mod_truncate truncA
  refine off_v FU h.mi (fun x => if_neg n1) (fun hd hx x0 => ?_)
  obtain ⟨x, ex⟩ : ∃ x, x = thw w 0 := ⟨_, rfl⟩
  rw [← ex] at hx x0 ⊢
  have hA := h.tt hd
  have hT := hA.t
  have bad : AnsV (Mod_truncate_b28 FU (nI f) (nI s) (up x)) 1 (1, 0, A) := by
    unfold Mod_truncate_b28 Mod_truncate_b33
    exact thr_v FU hx (a := 1) (b := 0) (by decide) (by decide) (fun x => if_neg n1) (fun _ => rfl) (fun q => by cases q) (fun q => by cases q)
  rw [if_pos i00, show (1 : Int32) = nI 1 from rfl, is_z FU hx hT hf (by decide), Option.bind_some]
  by_cases c1 : A.T.kd f = 1
  · rw [if_pos c1, if_neg n1, show (0 : Int32) = nI 0 from rfl, show (100000 : Int32) = nI 100000 from rfl, in_z FU _ hs (by decide) (by decide), Option.bind_some]
    by_cases c2 : s ≤ 100000
    · rw [if_pos (show 0 ≤ s ∧ s ≤ 100000 by omega), if_neg (show ¬ nI 1 = nI 0 by decide), if_neg (show ¬ ¬ (A.T.kd f = 1 ∧ s ≤ 100000) from fun q => q ⟨c1, c2⟩)]
      unfold Mod_truncate_b33
      refine thr_v FU hx (a := 0) (b := 0) (by decide) (by decide) (fun x => if_neg n1) (fun q => by cases q) (fun _ q => by cases q) (fun _ _ hy y0 => ?_)
      rw [if_pos i00]
      refine stp_v hF hy hd hT h.ai (h.ub hd) (n := 6) (by decide) (fun x => if_neg n1) (fun r0 z hz z0 _ => ?_)
      rw [if_pos i00]
      refine (truncF_z hF hz ((h.ai.rsv hT 6).1 r0) (hA.rsv 6) (by rw [rsvB_T]; exact c1) c2).mono ?_
      rintro _ ⟨y', rfl, hy', y0'⟩
      exact ⟨y', rfl, y0'.trans z0, hy'⟩
    · rw [if_neg (show ¬ (0 ≤ s ∧ s ≤ 100000) by omega), if_pos rfl, if_pos (show ¬ (A.T.kd f = 1 ∧ s ≤ 100000) from fun q => c2 q.2)]
      exact bad
  · rw [if_neg c1, if_pos i00, if_pos (show ¬ (A.T.kd f = 1 ∧ s ≤ 100000) from fun q => c1 q.1)]
    exact bad
theorem mo_write {FU : Nat} (hF : 140000 < FU) {w : NSt} {A : AB} (h : MH w A) {f at' n : Nat} (hf : f < 2 ^ 32) (ha : at' < 2 ^ 32) (hn : n < 2 ^ 32) : AnsM (Mod_write FU (nI f) (nI at') (nI n) (up w)) (writeA f at' n A).1 (writeA f at' n A) := by
  unfold Mod_write writeA
  refine off_m FU h.mi (fun x => if_neg n1) (fun hd hx x0 => ?_)
  obtain ⟨x, ex⟩ : ∃ x, x = thw w 0 := ⟨_, rfl⟩
  rw [← ex] at hx x0 ⊢
  have hA := h.tt hd
  have hT := hA.t
  have t1 := hx.tl.1
  have t2 := hx.tl.2
  have bad : AnsM (Mod_write_b49 FU (nI f) (nI at') (nI n) (up x)) 1 (1, 0, A.w_tl 0) := by
    unfold Mod_write_b49 Mod_write_b54 Mod_done
    rw [nx_eq, show (0 : Int32) = nI 0 from rfl, up_I, Option.bind_some]
    exact thr_m FU hx.tl0 (a := 1) (b := 0) (by decide) (by decide) (fun x => if_neg n1) (fun _ => rfl) (fun q => by cases q) (fun q => by cases q)
  have bad' : ¬ (A.T.kd f = 1 ∧ 1 ≤ n ∧ n ≤ 2000 ∧ n ≤ A.tl ∧ at' + n ≤ 100000) → ∀ r : ANS, AnsM (Mod_write_b49 FU (nI f) (nI at') (nI n) (up x)) (if ¬ (A.T.kd f = 1 ∧ 1 ≤ n ∧ n ≤ 2000 ∧ n ≤ A.tl ∧ at' + n ≤ 100000) then (1, 0, A.w_tl 0) else r).1 (if ¬ (A.T.kd f = 1 ∧ 1 ≤ n ∧ n ≤ 2000 ∧ n ≤ A.tl ∧ at' + n ≤ 100000) then (1, 0, A.w_tl 0) else r) := fun q r => by
    rw [if_pos q]; exact bad
  rw [if_pos i00, show (1 : Int32) = nI 1 from rfl, is_z FU hx hT hf (by decide), Option.bind_some]
  by_cases c1 : A.T.kd f = 1
  · rw [if_pos c1, if_neg n1, show (2000 : Int32) = nI 2000 from rfl, in_z FU _ hn (by decide) (by decide), Option.bind_some]
    by_cases c2 : 1 ≤ n ∧ n ≤ 2000
    · rw [if_pos c2, if_neg n1, up1, t1]
      by_cases c3 : A.tl < n
      · rw [if_pos (nI_lt c3 (by omega))]
        exact bad' (fun q => by omega) _
      · rw [if_neg (nI_nlt (by omega) (by omega))]
        by_cases c4 : at' < 2 ^ 31
        · rw [if_neg (show ¬ nI at' < (0 : Int32) from fun v => by
            rw [show (0 : Int32) = nI 0 from rfl, nI_ltI c4 (by decide)] at v
            omega), show (100000 : Int32) = nI 100000 from rfl, pk_sub (by omega)]
          by_cases c5 : at' ≤ 100000 - n
          · rw [if_pos (nI_le c5 (by omega)), if_neg (show ¬ ¬ (A.T.kd f = 1 ∧ 1 ≤ n ∧ n ≤ 2000 ∧ n ≤ A.tl ∧ at' + n ≤ 100000) from fun q => q ⟨c1, c2.1, c2.2, by omega, by omega⟩)]
            unfold Mod_write_b54 Mod_done
            rw [nx_eq, show (0 : Int32) = nI 0 from rfl, up_I, Option.bind_some]
            refine thr_m FU hx.tl0 (a := 0) (b := 0) (by decide) (by decide) (fun x => if_neg n1) (fun q => by cases q) (fun _ q => by cases q) (fun _ _ hy y0 => ?_)
            have e : nI at' + nI n - (1 : Int32) = nI (at' + n - 1) := by
              rw [nI_add, show (1 : Int32) = nI 1 from rfl, pk_sub (by omega)]
            have e2 : (nI at' + nI n - (1 : Int32)) / (256 : Int32) - nI at' / (256 : Int32) + (7 : Int32) = nI ((at' + n - 1) / 256 - at' / 256 + 7) := by
              rw [e, show (256 : Int32) = nI 256 from rfl, pk_div (by omega) (by decide) (by decide), pk_div (by omega) (by decide) (by decide), pk_sub (by omega), show (7 : Int32) = nI 7 from rfl, nI_add]
            rw [if_pos rfl, e2]
            refine stp_m hF hy hd hT (h.ai.tl 0) (h.ub hd) (n := (at' + n - 1) / 256 - at' / 256 + 7) (by omega) (fun x => if_neg (show ¬ nI 1 = nI 0 by decide)) (fun r0 z hz z0 _ => ?_)
            rw [if_pos rfl]
            obtain ⟨B, eB⟩ : ∃ B, B = rsvB ((at' + n - 1) / 256 - at' / 256 + 7) (A.w_tl 0) := ⟨_, rfl⟩
            have hB := ((h.ai.tl 0).rsv (A := A.w_tl 0) hT ((at' + n - 1) / 256 - at' / 256 + 7)).1 r0
            have hBt := (hA.tl 0).rsv ((at' + n - 1) / 256 - at' / 256 + 7)
            have bT := rsvB_T ((at' + n - 1) / 256 - at' / 256 + 7) (A.w_tl 0)
            have bp := rsvB_tp ((at' + n - 1) / 256 - at' / 256 + 7) (A.w_tl 0)
            rw [← eB] at hz hB hBt bT bp ⊢
            have bp : B.tp = A.tp := bp
            refine (writeF_z hF hz hB hBt (by rw [bT]; exact c1) c2.1 c2.2 (by omega)).mono ?_
            rintro _ ⟨y', rfl, hy', y0'⟩
            rw [bp] at hy' ⊢
            exact ⟨y', rfl, y0'.trans z0, fun _ => rfl, hy'⟩
          · rw [if_neg (nI_ge (by omega) (by omega))]
            exact bad' (fun q => by omega) _
        · rw [if_pos (show nI at' < (0 : Int32) from (sLt (b := 0) ha (by decide)).mpr (Or.inr (by omega)))]
          exact bad' (fun q => by omega) _
    · rw [if_neg c2, if_pos i00]
      exact bad' (fun q => c2 ⟨q.2.1, q.2.2.1⟩) _
  · rw [if_neg c1, if_pos i00]
    exact bad' (fun q => c1 q.1) _
