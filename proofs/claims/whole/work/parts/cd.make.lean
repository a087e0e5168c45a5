/-! the model: make, link, unlink, remove directory -/
theorem AnsM.eta {o : Option (Int32 × St)} {c : Nat} {r : ANS} (h : AnsM o c r) : AnsM (o.bind fun p => some (p.1, p.2)) c r := by
  obtain ⟨a, e, q⟩ := h
  rw [e, Option.bind_some]
  exact Ev.ret q
theorem mo_create {FU : Nat} (hF : 140000 < FU) {w : NSt} {A : AB} (h : MH w A) {k d n : Nat} (hk : k = 1 ∨ k = 2) (hd' : d < 2 ^ 32) (hn : n < 2 ^ 32) : AnsM (Mod_create FU (nI d) (nI n) (nI k) (up w)) (makeA k d n A).1 (makeA k d n A) := by
  unfold Mod_create makeA
  refine off_m FU h.mi (fun x => if_neg n1) (fun hd hx x0 => ?_)
  obtain ⟨x, ex⟩ : ∃ x, x = thw w 0 := ⟨_, rfl⟩
  rw [← ex] at hx x0 ⊢
  have hA := h.tt hd
  have hT := hA.t
  have bad1 : AnsM (Mod_create_b27 FU (nI d) (nI n) (nI k) (up x)) 1 (1, 0, A.w_tl 0) := by
    unfold Mod_create_b27 Mod_create_b32 Mod_create_b66 Mod_create_b71 Mod_done
    rw [if_neg (show ¬ (1 : Int32) = 0 by decide), nx_eq, show (0 : Int32) = nI 0 from rfl, up_I, Option.bind_some]
    exact thr_m FU hx.tl0 (a := 1) (b := 1) (by decide) (by decide) (fun x => if_neg n1) (fun _ => rfl) (fun q => by cases q) (fun q => by cases q)
  have bad2 : AnsM (Mod_create_b66 FU (nI d) (nI n) (nI k) (nI 0) (up x)) 2 (2, 0, A.w_tl 0) := by
    unfold Mod_create_b66 Mod_create_b71 Mod_done
    rw [nx_eq, show (0 : Int32) = nI 0 from rfl, up_I, Option.bind_some]
    exact thr_m FU hx.tl0 (a := 0) (b := 1) (by decide) (by decide) (fun x => if_neg n1) (fun q => by cases q) (fun _ _ => rfl) (fun _ q => by cases q)
  rw [if_pos i00, show (2 : Int32) = nI 2 from rfl, is_z FU hx hT hd' (by decide), Option.bind_some]
  by_cases c1 : A.T.kd d = 2
  · rw [if_pos c1, if_neg n1, show (0 : Int32) = nI 0 from rfl, moName_z hF hx (by decide) hn, Option.bind_some]
    by_cases c2 : nmOk A.tp A.tl 0 n = true
    · rw [if_pos c2, if_neg (show ¬ nI 1 = nI 0 by decide), if_neg (show ¬ ¬ (nmOk A.tp A.tl 0 n = true ∧ A.T.kd d = 2) from fun q => q ⟨c2, c1⟩)]
      unfold Mod_create_b32
      rw [if_pos i00, show (0 : Int32) = nI 0 from rfl]
      obtain ⟨nm, enm⟩ : ∃ nm, nm = nmN A.tp 0 n := ⟨_, rfl⟩
      have hE := hx.en.le
      rcases seek_z hF hx hd' c2 with ⟨j, j1, -, -, j4, j5, j6⟩ | ⟨j1, j2⟩
      · rw [j6, Option.bind_some, if_pos (nI_le (Nat.zero_le _) (by omega)), if_pos (Or.inl j5)]
        exact bad2
      · have hfull := hT.full d c1
        rw [← enm] at j1 ⊢
        rw [j2, Option.bind_some, if_neg (show ¬ nI 0 ≤ (-1 : Int32) by decide), namesOf_z hF hx hd', Option.bind_some]
        obtain ⟨nc, enc⟩ : ∃ nc, nc = nmc (A.T.ent d) := ⟨_, rfl⟩
        rw [← enc] at hfull ⊢
        by_cases c3 : 48 ≤ nc
        · rw [show nc = 48 by omega, if_pos (show nI 48 = (48 : Int32) from rfl), if_pos (Or.inr (Or.inl (by decide)))]
          exact bad2
        · rw [if_neg (fun v : nI nc = (48 : Int32) => by
            have := (eqN (w := nc) (by omega) (c := 48) (by decide)).mp v
            omega), freeId_z hF hx (by rw [h.ai.tw.ac.1]; decide), Option.bind_some]
          by_cases c4 : A.lw = 0
          · rw [if_pos c4, if_neg (show ¬ nI 0 ≤ (-1 : Int32) by decide), if_pos (Or.inr (Or.inr c4))]
            exact bad2
          · obtain ⟨w1, w2, -, -⟩ := lw_ok c4
            rw [if_neg c4, if_pos (nI_le (Nat.zero_le _) (by omega)), if_neg (show ¬ (A.T.ent d nm ≠ 0 ∨ 48 ≤ nc ∨ A.lw = 0) from fun q => by
              rcases q with q | q | q
              · exact q j1
              · exact c3 q
              · exact c4 q)]
            unfold Mod_create_b71 Mod_done
            rw [nx_eq, show (0 : Int32) = nI 0 from rfl, up_I, Option.bind_some]
            refine thr_m FU hx.tl0 (a := 0) (b := 0) (by decide) (by decide) (fun x => if_neg n1) (fun q => by cases q) (fun _ q => by cases q) (fun _ _ hy y0 => ?_)
            rw [if_pos rfl]
            refine stp_m hF hy hd hT (h.ai.tl 0) (h.ub hd) (n := 4) (by decide) (fun x => if_neg n1) (fun r0 z hz z0 ze => ?_)
            have hB := ((h.ai.tl 0).rsv (A := A.w_tl 0) hT 4).1 r0
            have hBt := (hA.tl 0).rsv 4
            have bT : (rsvB 4 (A.w_tl 0)).T = A.T := rsvB_T 4 (A.w_tl 0)
            have bp : (rsvB 4 (A.w_tl 0)).tp = A.tp := rsvB_tp 4 (A.w_tl 0)
            have bl : (rsvB 4 (A.w_tl 0)).lw ≠ 0 := lw_rsv 4 c4
            obtain ⟨B, eB⟩ : ∃ B, B = rsvB 4 (A.w_tl 0) := ⟨_, rfl⟩
            rw [← eB] at hz hB hBt bT bp bl ⊢
            have hEz := ents_le hz hB hBt.t
            obtain ⟨l1, l2, l3, l4⟩ := lw_ok bl
            obtain ⟨id, eid⟩ : ∃ id, id = B.lw := ⟨_, rfl⟩
            rw [if_pos rfl, freeId_z hF hz (by rw [hB.tw.ac.1]; decide), Option.bind_some, if_neg bl]
            rw [← eid] at l1 l2 l3 l4 ⊢
            rw [wrA_z z 2 (by omega) (by decide), Option.bind_some, wrA_z _ 3 (by omega) (by decide), Option.bind_some, show (1 : Int32) = nI 1 from rfl, wrA_z _ 4 (by omega) (by decide), Option.bind_some, show nz (nI 1) = nI 1 by decide, wrA_z _ 5 (by omega) (by decide), Option.bind_some, wrA_z _ 7 (by omega) (by decide), Option.bind_some]
            obtain ⟨y, ey⟩ : ∃ y, y = zA (zA (zA (zA (zA z 2 id k) 3 id 0) 4 id 1) 5 id 1) 7 id 1 := ⟨_, rfl⟩
            rw [← ey]
            have ya : ∀ a, a ≠ 2 → a ≠ 3 → a ≠ 4 → a ≠ 5 → a ≠ 7 → y.2 a = z.2 a := fun a a2 a3 a4 a5 a7 => by rw [ey, zA2, if_neg a7, zA2, if_neg a5, zA2, if_neg a4, zA2, if_neg a3, zA2, if_neg a2]
            have y1 : y.1 = z.1 := by rw [ey]; rfl
            have y2 : y.2 2 id = k := by rw [ey, zA2, if_neg (by decide), zA2, if_neg (by decide), zA2, if_neg (by decide), zA2, if_neg (by decide), zA2, if_pos rfl, va_up_self]
            have y3 : y.2 3 id = 0 := by rw [ey, zA2, if_neg (by decide), zA2, if_neg (by decide), zA2, if_neg (by decide), zA2, if_pos rfl, va_up_self]
            have y4 : y.2 4 id = 1 := by rw [ey, zA2, if_neg (by decide), zA2, if_neg (by decide), zA2, if_pos rfl, va_up_self]
            have y5 : y.2 5 id = 1 := by rw [ey, zA2, if_neg (by decide), zA2, if_pos rfl, va_up_self]
            have y7 : y.2 7 id = 1 := by rw [ey, zA2, if_pos rfl, va_up_self]
            have hpo : PO y := hz.po.up (by rw [y1]) (ya 8 (by decide) (by decide) (by decide) (by decide) (by decide)) (ya 10 (by decide) (by decide) (by decide) (by decide) (by decide)) (by rw [ey]; exact zA_wd (zA_wd (zA_wd (zA_wd (zA_wd hz.po.wd _ _ (by omega)) _ _ (by decide)) _ _ (by decide)) _ _ (by decide)) _ _ (by decide))
            have hpn : PN0 z 0 id := (hz.f0 id l1 l2).2 (by rw [l3]; decide)
            have y8 := ya 8 (by decide) (by decide) (by decide) (by decide) (by decide)
            have hX : MI y ((B.w_T (newT B.T id k (if k = 2 then d else 1))).w_rn (va_up B.rn id true)) := by
              refine hz.one (x := id) hpo (fun j _ _ => by rw [y1]) (fun a q => ya a (by omega) (by omega) (by omega) (by omega) (by omega)) (fun a q j hj => ?_) (fun l i p _ _ _ _ => by rw [y8]) l2 ?_ (fun i c => ?_) (fun i c => ?_) (fun i c => ?_) (fun i c => ?_) ?_ (fun q => ?_) ?_ ?_
              · rw [ey, zA_ne _ _ _ _ _ _ hj, zA_ne _ _ _ _ _ _ hj, zA_ne _ _ _ _ _ _ hj, zA_ne _ _ _ _ _ _ hj, zA_ne _ _ _ _ _ _ hj]
              · funext e m
                show va_up B.T.ent id (fun _ => 0) e m = _
                by_cases c : e = id
                · rw [c, va_up_self]
                  exact (hB.tw.noe id m (by rw [l3]; decide)).symm
                · rw [va_up_ne _ _ c]
              · exact va_up_ne _ _ c
              · exact va_up_ne _ _ c
              · exact va_up_ne _ _ c
              · exact va_up_ne _ _ c
              · rw [y2]; exact (va_up_self _ _ _).symm
              · have q : va_up B.T.kd id k id = 1 := q
                rw [va_up_self] at q
                rw [y4]
                show 1 = va_up B.T.lk id (if k = 2 then d else 1) id
                rw [va_up_self, if_neg (by omega)]
              · rw [y7]
                exact ⟨by decide, fun _ => by rw [va_up_self, if_pos rfl]⟩
              · refine ⟨fun _ => ?_, fun _ p hp => by rw [y8]; exact hpn p hp⟩
                have ef : (newT B.T id k (if k = 2 then d else 1)).fil id = fv0 := va_up_self _ _ _
                rw [ef]
                refine ⟨?_, ?_, (fun q => absurd q (show ¬ fv0.sm = 0 by decide)), fun _ p p1 hp => by rw [y8]; exact hpn p hp, fun i hi => ⟨fun _ => rfl, fun q => absurd ?_ q⟩⟩
                · rw [show 251 * 0 + id = id by omega]; exact y3
                · rw [show 251 * 0 + id = id by omega]; exact y5
                · rw [y8]; exact hpn _ (by omega)
            obtain ⟨X, eX⟩ : ∃ X, X = (B.w_T (newT B.T id k (if k = 2 then d else 1))).w_rn (va_up B.rn id true) := ⟨_, rfl⟩
            rw [← eX] at hX
            have Xt : X.tp = A.tp := by rw [eX]; exact bp
            have XT : X.T = newT B.T id k (if k = 2 then d else 1) := by rw [eX]; rfl
            have Xe : X.T.ent d nm = 0 := by
              rw [XT]
              show va_up B.T.ent id (fun _ => 0) d nm = 0
              rw [va_up_ne _ _ (fun e => by rw [← e, bT, c1] at l3; cases l3), bT]
              exact j1
            obtain ⟨dr1, dr2, -⟩ := hT.rng d (by rw [c1]; decide)
            have y12 : y.1 12 < 2400 := by rw [y1]; omega
            refine (addEntry_z hF hX A.tp A.tl y12 (by omega) (by rw [Xt]; exact c2) hx.tl.2 (by rw [Xt, ← enm]; exact Xe) (by omega) l2).bd ?_
            rintro _ ⟨v, rfl, hv, v0, -⟩
            rw [Xt, ← enm] at hv
            have e9 : X.w_T (X.T.put d nm id) = (B.w_T ((newT B.T id k (if k = 2 then d else 1)).put d nm id)).w_rn (va_up B.rn id true) := by
              rw [XT, eX]
              refine AB_ext ?_ ?_ ?_ ?_ ?_ ?_ ?_ ?_ ?_ ?_ ?_ ?_ ?_ ?_ ?_ ?_ <;> simp only [wr_tp_tp, wr_tp_tl, wr_tp_tb, wr_tp_ol, wr_tp_dv, wr_tp_ct, wr_tp_us, wr_tp_fr, wr_tp_tk, wr_tp_rm, wr_tp_fw, wr_tp_T, wr_tp_O, wr_tp_S, wr_tp_F, wr_tp_rn, wr_tl_tp, wr_tl_tl, wr_tl_tb, wr_tl_ol, wr_tl_dv, wr_tl_ct, wr_tl_us, wr_tl_fr, wr_tl_tk, wr_tl_rm, wr_tl_fw, wr_tl_T, wr_tl_O, wr_tl_S, wr_tl_F, wr_tl_rn, wr_tb_tp, wr_tb_tl, wr_tb_tb, wr_tb_ol, wr_tb_dv, wr_tb_ct, wr_tb_us, wr_tb_fr, wr_tb_tk, wr_tb_rm, wr_tb_fw, wr_tb_T, wr_tb_O, wr_tb_S, wr_tb_F, wr_tb_rn, wr_ol_tp, wr_ol_tl, wr_ol_tb, wr_ol_ol, wr_ol_dv, wr_ol_ct, wr_ol_us, wr_ol_fr, wr_ol_tk, wr_ol_rm, wr_ol_fw, wr_ol_T, wr_ol_O, wr_ol_S, wr_ol_F, wr_ol_rn, wr_dv_tp, wr_dv_tl, wr_dv_tb, wr_dv_ol, wr_dv_dv, wr_dv_ct, wr_dv_us, wr_dv_fr, wr_dv_tk, wr_dv_rm, wr_dv_fw, wr_dv_T, wr_dv_O, wr_dv_S, wr_dv_F, wr_dv_rn, wr_ct_tp, wr_ct_tl, wr_ct_tb, wr_ct_ol, wr_ct_dv, wr_ct_ct, wr_ct_us, wr_ct_fr, wr_ct_tk, wr_ct_rm, wr_ct_fw, wr_ct_T, wr_ct_O, wr_ct_S, wr_ct_F, wr_ct_rn, wr_us_tp, wr_us_tl, wr_us_tb, wr_us_ol, wr_us_dv, wr_us_ct, wr_us_us, wr_us_fr, wr_us_tk, wr_us_rm, wr_us_fw, wr_us_T, wr_us_O, wr_us_S, wr_us_F, wr_us_rn, wr_fr_tp, wr_fr_tl, wr_fr_tb, wr_fr_ol, wr_fr_dv, wr_fr_ct, wr_fr_us, wr_fr_fr, wr_fr_tk, wr_fr_rm, wr_fr_fw, wr_fr_T, wr_fr_O, wr_fr_S, wr_fr_F, wr_fr_rn, wr_tk_tp, wr_tk_tl, wr_tk_tb, wr_tk_ol, wr_tk_dv, wr_tk_ct, wr_tk_us, wr_tk_fr, wr_tk_tk, wr_tk_rm, wr_tk_fw, wr_tk_T, wr_tk_O, wr_tk_S, wr_tk_F, wr_tk_rn, wr_rm_tp, wr_rm_tl, wr_rm_tb, wr_rm_ol, wr_rm_dv, wr_rm_ct, wr_rm_us, wr_rm_fr, wr_rm_tk, wr_rm_rm, wr_rm_fw, wr_rm_T, wr_rm_O, wr_rm_S, wr_rm_F, wr_rm_rn, wr_fw_tp, wr_fw_tl, wr_fw_tb, wr_fw_ol, wr_fw_dv, wr_fw_ct, wr_fw_us, wr_fw_fr, wr_fw_tk, wr_fw_rm, wr_fw_fw, wr_fw_T, wr_fw_O, wr_fw_S, wr_fw_F, wr_fw_rn, wr_T_tp, wr_T_tl, wr_T_tb, wr_T_ol, wr_T_dv, wr_T_ct, wr_T_us, wr_T_fr, wr_T_tk, wr_T_rm, wr_T_fw, wr_T_T, wr_T_O, wr_T_S, wr_T_F, wr_T_rn, wr_O_tp, wr_O_tl, wr_O_tb, wr_O_ol, wr_O_dv, wr_O_ct, wr_O_us, wr_O_fr, wr_O_tk, wr_O_rm, wr_O_fw, wr_O_T, wr_O_O, wr_O_S, wr_O_F, wr_O_rn, wr_S_tp, wr_S_tl, wr_S_tb, wr_S_ol, wr_S_dv, wr_S_ct, wr_S_us, wr_S_fr, wr_S_tk, wr_S_rm, wr_S_fw, wr_S_T, wr_S_O, wr_S_S, wr_S_F, wr_S_rn, wr_F_tp, wr_F_tl, wr_F_tb, wr_F_ol, wr_F_dv, wr_F_ct, wr_F_us, wr_F_fr, wr_F_tk, wr_F_rm, wr_F_fw, wr_F_T, wr_F_O, wr_F_S, wr_F_F, wr_F_rn, wr_rn_tp, wr_rn_tl, wr_rn_tb, wr_rn_ol, wr_rn_dv, wr_rn_ct, wr_rn_us, wr_rn_fr, wr_rn_tk, wr_rn_rm, wr_rn_fw, wr_rn_T, wr_rn_O, wr_rn_S, wr_rn_F, wr_rn_rn]
            rw [e9] at hv
            exact AnsM.mk hv (by rw [v0, y1, z0]) (fun _ => rfl)
    · rw [if_neg c2, if_pos rfl, if_pos (show ¬ (nmOk A.tp A.tl 0 n = true ∧ A.T.kd d = 2) from fun q => c2 q.1)]
      exact bad1
  · rw [if_neg c1, if_pos i00, if_pos (show ¬ (nmOk A.tp A.tl 0 n = true ∧ A.T.kd d = 2) from fun q => c1 q.2)]
    exact bad1
theorem mo_make {FU : Nat} (hF : 140000 < FU) {w : NSt} {A : AB} (h : MH w A) {d n : Nat} (hd' : d < 2 ^ 32) (hn : n < 2 ^ 32) : AnsM (Mod_make FU (nI d) (nI n) (up w)) (makeA 1 d n A).1 (makeA 1 d n A) := (mo_create hF h (k := 1) (by decide) hd' hn).eta
theorem mo_mkdir {FU : Nat} (hF : 140000 < FU) {w : NSt} {A : AB} (h : MH w A) {d n : Nat} (hd' : d < 2 ^ 32) (hn : n < 2 ^ 32) : AnsM (Mod_makeDirectory FU (nI d) (nI n) (up w)) (makeA 2 d n A).1 (makeA 2 d n A) := (mo_create hF h (k := 2) (by decide) hd' hn).eta
theorem mo_link {FU : Nat} (hF : 140000 < FU) {w : NSt} {A : AB} (h : MH w A) {f d n : Nat} (hf' : f < 2 ^ 32) (hd' : d < 2 ^ 32) (hn : n < 2 ^ 32) : AnsM (Mod_link FU (nI f) (nI d) (nI n) (up w)) (linkA f d n A).1 (linkA f d n A) := by
  unfold Mod_link linkA
  refine off_m FU h.mi (fun x => if_neg n1) (fun hd hx x0 => ?_)
  obtain ⟨x, ex⟩ : ∃ x, x = thw w 0 := ⟨_, rfl⟩
  rw [← ex] at hx x0 ⊢
  have hA := h.tt hd
  have hT := hA.t
  have bad1 : AnsM (Mod_link_b36 FU (nI f) (nI d) (nI n) (up x)) 1 (1, 0, A.w_tl 0) := by
    unfold Mod_link_b36 Mod_link_b41 Mod_link_b68 Mod_link_b73 Mod_done
    rw [if_neg (show ¬ (1 : Int32) = 0 by decide), nx_eq, show (0 : Int32) = nI 0 from rfl, up_I, Option.bind_some]
    exact thr_m FU hx.tl0 (a := 1) (b := 1) (by decide) (by decide) (fun x => if_neg n1) (fun _ => rfl) (fun q => by cases q) (fun q => by cases q)
  have bad2 : AnsM (Mod_link_b68 FU (nI f) (nI d) (nI n) (nI 0) (up x)) 2 (2, 0, A.w_tl 0) := by
    unfold Mod_link_b68 Mod_link_b73 Mod_done
    rw [nx_eq, show (0 : Int32) = nI 0 from rfl, up_I, Option.bind_some]
    exact thr_m FU hx.tl0 (a := 0) (b := 1) (by decide) (by decide) (fun x => if_neg n1) (fun q => by cases q) (fun _ _ => rfl) (fun _ q => by cases q)
  rw [if_pos i00, show (1 : Int32) = nI 1 from rfl, is_z FU hx hT hf' (by decide), Option.bind_some]
  by_cases c0 : A.T.kd f = 1
  · rw [if_pos c0, if_neg n1, show (2 : Int32) = nI 2 from rfl, is_z FU hx hT hd' (by decide), Option.bind_some]
    by_cases c1 : A.T.kd d = 2
    · rw [if_pos c1, if_neg n1, show (0 : Int32) = nI 0 from rfl, moName_z hF hx (by decide) hn, Option.bind_some]
      by_cases c2 : nmOk A.tp A.tl 0 n = true
      · rw [if_pos c2, if_neg (show ¬ nI 1 = nI 0 by decide), if_neg (show ¬ ¬ (nmOk A.tp A.tl 0 n = true ∧ A.T.kd d = 2 ∧ A.T.kd f = 1) from fun q => q ⟨c2, c1, c0⟩)]
        unfold Mod_link_b41
        rw [if_pos i00, show (0 : Int32) = nI 0 from rfl]
        obtain ⟨nm, enm⟩ : ∃ nm, nm = nmN A.tp 0 n := ⟨_, rfl⟩
        have hE := hx.en.le
        rcases seek_z hF hx hd' c2 with ⟨j, j1, -, -, j4, j5, j6⟩ | ⟨j1, j2⟩
        · rw [j6, Option.bind_some, if_pos (nI_le (Nat.zero_le _) (by omega)), if_pos (Or.inl j5)]
          exact bad2
        · have hfull := hT.full d c1
          rw [← enm] at j1 ⊢
          rw [j2, Option.bind_some, if_neg (show ¬ nI 0 ≤ (-1 : Int32) by decide), namesOf_z hF hx hd', Option.bind_some]
          obtain ⟨nc, enc⟩ : ∃ nc, nc = nmc (A.T.ent d) := ⟨_, rfl⟩
          rw [← enc] at hfull ⊢
          by_cases c3 : 48 ≤ nc
          · rw [show nc = 48 by omega, if_pos (show nI 48 = (48 : Int32) from rfl), if_pos (Or.inr (by decide))]
            exact bad2
          · rw [if_neg (fun v : nI nc = (48 : Int32) => by
              have := (eqN (w := nc) (by omega) (c := 48) (by decide)).mp v
              omega), if_neg (show ¬ (A.T.ent d nm ≠ 0 ∨ 48 ≤ nc) from fun q => by
                rcases q with q | q
                · exact q j1
                · exact c3 q)]
            unfold Mod_link_b73 Mod_done
            rw [nx_eq, show (0 : Int32) = nI 0 from rfl, up_I, Option.bind_some]
            refine thr_m FU hx.tl0 (a := 0) (b := 0) (by decide) (by decide) (fun x => if_neg n1) (fun q => by cases q) (fun _ q => by cases q) (fun _ _ hy y0 => ?_)
            rw [if_pos rfl]
            refine stp_m hF hy hd hT (h.ai.tl 0) (h.ub hd) (n := 4) (by decide) (fun x => if_neg n1) (fun r0 z hz z0 ze => ?_)
            have hB := ((h.ai.tl 0).rsv (A := A.w_tl 0) hT 4).1 r0
            have hBt := (hA.tl 0).rsv 4
            have bT : (rsvB 4 (A.w_tl 0)).T = A.T := rsvB_T 4 (A.w_tl 0)
            have bp : (rsvB 4 (A.w_tl 0)).tp = A.tp := rsvB_tp 4 (A.w_tl 0)
            obtain ⟨B, eB⟩ : ∃ B, B = rsvB 4 (A.w_tl 0) := ⟨_, rfl⟩
            rw [← eB] at hz hB hBt bT bp ⊢
            have hEz := ents_le hz hB hBt.t
            obtain ⟨f1, f2, -⟩ := hT.rng f (by omega)
            have k1 : B.T.kd f = 1 := by rw [bT]; exact c0
            have hlb := hB.lkb hBt.t k1
            have el := (hz.lk f f1 f2).1 k1
            rw [if_pos rfl, rdA_z z 4 (by omega) (by decide), Option.bind_some, el, nI_1, wrA_z z 4 (by omega) (by decide), Option.bind_some, show nz (1 : Int32) = nI 1 by decide, wrA_z _ 7 (by omega) (by decide), Option.bind_some]
            obtain ⟨y, ey⟩ : ∃ y, y = zA (zA z 4 f (B.T.lk f + 1)) 7 f 1 := ⟨_, rfl⟩
            rw [← ey]
            have ya : ∀ a, a ≠ 4 → a ≠ 7 → y.2 a = z.2 a := fun a a4 a7 => by rw [ey, zA2, if_neg a7, zA2, if_neg a4]
            have y1 : y.1 = z.1 := by rw [ey]; rfl
            have y4 : y.2 4 f = B.T.lk f + 1 := by rw [ey, zA2, if_neg (by decide), zA2, if_pos rfl, va_up_self]
            have y7 : y.2 7 f = 1 := by rw [ey, zA2, if_pos rfl, va_up_self]
            have hpo : PO y := hz.po.up (by rw [y1]) (ya 8 (by decide) (by decide)) (ya 10 (by decide) (by decide)) (by rw [ey]; exact zA_wd (zA_wd hz.po.wd _ _ (by omega)) _ _ (by decide))
            have hX : MI y ((B.w_T (B.T.wLk (va_up B.T.lk f (B.T.lk f + 1)))).w_rn (va_up B.rn f true)) := by
              refine hz.one (x := f) hpo (fun j _ _ => by rw [y1]) (fun a q => ya a (by omega) (by omega)) (fun a q j hj => ?_) (fun l i p _ _ _ _ => by rw [ya 8 (by decide) (by decide)]) f2 rfl (fun i c => rfl) (fun i c => ?_) (fun i c => rfl) (fun i c => ?_) ?_ (fun q => ?_) ?_ ?_
              · rw [ey, zA_ne _ _ _ _ _ _ hj, zA_ne _ _ _ _ _ _ hj]
              · exact va_up_ne _ _ c
              · exact va_up_ne _ _ c
              · rw [ya 2 (by decide) (by decide)]; exact (hz.kd f f1 f2).1
              · rw [y4]
                exact (va_up_self _ _ _).symm
              · rw [y7]
                exact ⟨by decide, fun _ => by rw [va_up_self, if_pos rfl]⟩
              · refine ⟨fun _ => ?_, fun q => absurd k1 q⟩
                exact ((hz.f0 f f1 f2).1 k1).keep (ya 3 (by decide) (by decide)) (ya 5 (by decide) (by decide)) (ya 8 (by decide) (by decide)) (ya 9 (by decide) (by decide))
            obtain ⟨X, eX⟩ : ∃ X, X = (B.w_T (B.T.wLk (va_up B.T.lk f (B.T.lk f + 1)))).w_rn (va_up B.rn f true) := ⟨_, rfl⟩
            rw [← eX] at hX
            have Xt : X.tp = A.tp := by rw [eX]; exact bp
            have XT : X.T = B.T.wLk (va_up B.T.lk f (B.T.lk f + 1)) := by rw [eX]; rfl
            have Xe : X.T.ent d nm = 0 := by
              rw [XT]
              show B.T.ent d nm = 0
              rw [bT]
              exact j1
            obtain ⟨dr1, dr2, -⟩ := hT.rng d (by rw [c1]; decide)
            have y12 : y.1 12 < 2400 := by rw [y1]; omega
            refine (addEntry_z hF hX A.tp A.tl y12 (by omega) (by rw [Xt]; exact c2) hx.tl.2 (by rw [Xt, ← enm]; exact Xe) (by omega) f2).bd ?_
            rintro _ ⟨v, rfl, hv, v0, va⟩
            rw [Xt, ← enm] at hv
            have e9 : X.w_T (X.T.put d nm f) = (B.w_T ((B.T.put d nm f).wLk (va_up B.T.lk f (B.T.lk f + 1)))).w_rn (va_up B.rn f true) := by
              rw [XT, eX]
              refine AB_ext ?_ ?_ ?_ ?_ ?_ ?_ ?_ ?_ ?_ ?_ ?_ ?_ ?_ ?_ ?_ ?_ <;> simp only [wr_tp_tp, wr_tp_tl, wr_tp_tb, wr_tp_ol, wr_tp_dv, wr_tp_ct, wr_tp_us, wr_tp_fr, wr_tp_tk, wr_tp_rm, wr_tp_fw, wr_tp_T, wr_tp_O, wr_tp_S, wr_tp_F, wr_tp_rn, wr_tl_tp, wr_tl_tl, wr_tl_tb, wr_tl_ol, wr_tl_dv, wr_tl_ct, wr_tl_us, wr_tl_fr, wr_tl_tk, wr_tl_rm, wr_tl_fw, wr_tl_T, wr_tl_O, wr_tl_S, wr_tl_F, wr_tl_rn, wr_tb_tp, wr_tb_tl, wr_tb_tb, wr_tb_ol, wr_tb_dv, wr_tb_ct, wr_tb_us, wr_tb_fr, wr_tb_tk, wr_tb_rm, wr_tb_fw, wr_tb_T, wr_tb_O, wr_tb_S, wr_tb_F, wr_tb_rn, wr_ol_tp, wr_ol_tl, wr_ol_tb, wr_ol_ol, wr_ol_dv, wr_ol_ct, wr_ol_us, wr_ol_fr, wr_ol_tk, wr_ol_rm, wr_ol_fw, wr_ol_T, wr_ol_O, wr_ol_S, wr_ol_F, wr_ol_rn, wr_dv_tp, wr_dv_tl, wr_dv_tb, wr_dv_ol, wr_dv_dv, wr_dv_ct, wr_dv_us, wr_dv_fr, wr_dv_tk, wr_dv_rm, wr_dv_fw, wr_dv_T, wr_dv_O, wr_dv_S, wr_dv_F, wr_dv_rn, wr_ct_tp, wr_ct_tl, wr_ct_tb, wr_ct_ol, wr_ct_dv, wr_ct_ct, wr_ct_us, wr_ct_fr, wr_ct_tk, wr_ct_rm, wr_ct_fw, wr_ct_T, wr_ct_O, wr_ct_S, wr_ct_F, wr_ct_rn, wr_us_tp, wr_us_tl, wr_us_tb, wr_us_ol, wr_us_dv, wr_us_ct, wr_us_us, wr_us_fr, wr_us_tk, wr_us_rm, wr_us_fw, wr_us_T, wr_us_O, wr_us_S, wr_us_F, wr_us_rn, wr_fr_tp, wr_fr_tl, wr_fr_tb, wr_fr_ol, wr_fr_dv, wr_fr_ct, wr_fr_us, wr_fr_fr, wr_fr_tk, wr_fr_rm, wr_fr_fw, wr_fr_T, wr_fr_O, wr_fr_S, wr_fr_F, wr_fr_rn, wr_tk_tp, wr_tk_tl, wr_tk_tb, wr_tk_ol, wr_tk_dv, wr_tk_ct, wr_tk_us, wr_tk_fr, wr_tk_tk, wr_tk_rm, wr_tk_fw, wr_tk_T, wr_tk_O, wr_tk_S, wr_tk_F, wr_tk_rn, wr_rm_tp, wr_rm_tl, wr_rm_tb, wr_rm_ol, wr_rm_dv, wr_rm_ct, wr_rm_us, wr_rm_fr, wr_rm_tk, wr_rm_rm, wr_rm_fw, wr_rm_T, wr_rm_O, wr_rm_S, wr_rm_F, wr_rm_rn, wr_fw_tp, wr_fw_tl, wr_fw_tb, wr_fw_ol, wr_fw_dv, wr_fw_ct, wr_fw_us, wr_fw_fr, wr_fw_tk, wr_fw_rm, wr_fw_fw, wr_fw_T, wr_fw_O, wr_fw_S, wr_fw_F, wr_fw_rn, wr_T_tp, wr_T_tl, wr_T_tb, wr_T_ol, wr_T_dv, wr_T_ct, wr_T_us, wr_T_fr, wr_T_tk, wr_T_rm, wr_T_fw, wr_T_T, wr_T_O, wr_T_S, wr_T_F, wr_T_rn, wr_O_tp, wr_O_tl, wr_O_tb, wr_O_ol, wr_O_dv, wr_O_ct, wr_O_us, wr_O_fr, wr_O_tk, wr_O_rm, wr_O_fw, wr_O_T, wr_O_O, wr_O_S, wr_O_F, wr_O_rn, wr_S_tp, wr_S_tl, wr_S_tb, wr_S_ol, wr_S_dv, wr_S_ct, wr_S_us, wr_S_fr, wr_S_tk, wr_S_rm, wr_S_fw, wr_S_T, wr_S_O, wr_S_S, wr_S_F, wr_S_rn, wr_F_tp, wr_F_tl, wr_F_tb, wr_F_ol, wr_F_dv, wr_F_ct, wr_F_us, wr_F_fr, wr_F_tk, wr_F_rm, wr_F_fw, wr_F_T, wr_F_O, wr_F_S, wr_F_F, wr_F_rn, wr_rn_tp, wr_rn_tl, wr_rn_tb, wr_rn_ol, wr_rn_dv, wr_rn_ct, wr_rn_us, wr_rn_fr, wr_rn_tk, wr_rn_rm, wr_rn_fw, wr_rn_T, wr_rn_O, wr_rn_S, wr_rn_F, wr_rn_rn]
              rfl
            rw [e9] at hv
            rw [rdA_z v 4 (by omega) (by decide), Option.bind_some, va 4 (by decide), y4]
            exact AnsM.mk hv (by rw [v0, y1, z0]) (fun _ => rfl)
      · rw [if_neg c2, if_pos rfl, if_pos (show ¬ (nmOk A.tp A.tl 0 n = true ∧ A.T.kd d = 2 ∧ A.T.kd f = 1) from fun q => c2 q.1)]
        exact bad1
    · rw [if_neg c1, if_pos i00, if_pos (show ¬ (nmOk A.tp A.tl 0 n = true ∧ A.T.kd d = 2 ∧ A.T.kd f = 1) from fun q => c1 q.2.1)]
      exact bad1
  · rw [if_neg c0, if_pos i00, if_pos (show ¬ (nmOk A.tp A.tl 0 n = true ∧ A.T.kd d = 2 ∧ A.T.kd f = 1) from fun q => c0 q.2.2)]
    exact bad1
/-- an entry that was found stays found -/
theorem SE.nm {y w : NSt} (h : SE y w) (k : Nat) : nmK y 13 14 k = nmK w 13 14 k := by
  unfold nmK
  rw [h.2 13 (by decide) (by decide), h.2 14 (by decide) (by decide)]
theorem SE.z9 (w : NSt) (c : Nat) : SE (thw (zI w 9 0) c) w := ⟨by unfold thw; rw [zI1, if_neg (by decide), zI1, if_neg (by decide)], fun _ _ _ => rfl⟩
theorem lk_pos {T : TRE} (h : TWF T) (hT : TFA T) {d n f : Nat} (he : T.ent d n = f) (hk : T.kd f = 1) : 1 ≤ T.lk f := by
  have f0 : f ≠ 0 := fun e => by
    have := (hT.rng f (by omega)).1
    omega
  have kd : T.kd d = 2 := Classical.byContradiction (fun q => f0 (by rw [← he]; exact h.noe d n q))
  obtain ⟨d1, d2, -⟩ := hT.rng d (by omega)
  obtain ⟨l, hl⟩ := h.nl d n (by rw [he]; exact f0)
  rw [h.lk f hk]
  exact lkc_one d2 (NL_lt hl) he
theorem mo_unlink {FU : Nat} (hF : 140000 < FU) {w : NSt} {A : AB} (h : MH w A) {d n : Nat} (hd' : d < 2 ^ 32) (hn : n < 2 ^ 32) : AnsM (Mod_unlink FU (nI d) (nI n) (up w)) (unlinkA d n A).1 (unlinkA d n A) := by
  unfold Mod_unlink unlinkA
  refine off_m FU h.mi (fun x => if_neg n1) (fun hd hx x0 => ?_)
  obtain ⟨x, ex⟩ : ∃ x, x = thw w 0 := ⟨_, rfl⟩
  rw [← ex] at hx x0 ⊢
  have hA := h.tt hd
  have hT := hA.t
  have bad1 : AnsM (Mod_unlink_b27 FU (nI d) (nI n) (up x)) 1 (1, 0, A.w_tl 0) := by
    unfold Mod_unlink_b27 Mod_unlink_b32 Mod_unlink_b48 Mod_unlink_b77 Mod_unlink_b82 Mod_done
    rw [if_neg (show ¬ (1 : Int32) = 0 by decide), nx_eq, show (0 : Int32) = nI 0 from rfl, up_I, Option.bind_some, if_pos (show (-1 : Int32) < nI 0 by decide)]
    exact thr_m FU hx.tl0 (a := 1) (b := 1) (by decide) (by decide) (fun x => if_neg n1) (fun _ => rfl) (fun q => by cases q) (fun q => by cases q)
  have bad2 : ∀ v : Int32, AnsM (Mod_unlink_b77 FU v (nI 0) (up (zI x 9 0))) 2 (2, 0, A.w_tl 0) := fun v => by
    unfold Mod_unlink_b77 Mod_unlink_b82
    exact thr_m FU hx.tl0 (a := 0) (b := 1) (by decide) (by decide) (fun x => if_neg n1) (fun q => by cases q) (fun _ _ => rfl) (fun _ q => by cases q)
  rw [if_pos i00, show (2 : Int32) = nI 2 from rfl, is_z FU hx hT hd' (by decide), Option.bind_some]
  by_cases c1 : A.T.kd d = 2
  · rw [if_pos c1, if_neg n1, show (0 : Int32) = nI 0 from rfl, moName_z hF hx (by decide) hn, Option.bind_some]
    by_cases c2 : nmOk A.tp A.tl 0 n = true
    · rw [if_pos c2, if_neg (show ¬ nI 1 = nI 0 by decide), if_neg (show ¬ ¬ (nmOk A.tp A.tl 0 n = true ∧ A.T.kd d = 2) from fun q => q ⟨c2, c1⟩)]
      unfold Mod_unlink_b32
      rw [if_pos i00, show (0 : Int32) = nI 0 from rfl]
      obtain ⟨nm, enm⟩ : ∃ nm, nm = nmN A.tp 0 n := ⟨_, rfl⟩
      have hE := hx.en.le
      rcases seek_z hF hx hd' c2 with ⟨j, j1, j2, j3, j4, j5, j6⟩ | ⟨j1, j2⟩
      · rw [← enm] at j3 j4 j5 ⊢
        obtain ⟨f, ef⟩ : ∃ f, f = A.T.ent d nm := ⟨_, rfl⟩
        rw [← ef] at j4 j5 ⊢
        have fb : f ≤ 250 := by
          have := (hx.en.en j j1).2.2
          omega
        have f1 : 1 ≤ f := by omega
        rw [j6, Option.bind_some]
        unfold Mod_unlink_b48 Mod_done
        have x12 : (zI x 9 0).2 12 j = f := j4
        have x2 : (zI x 9 0).2 2 f = A.T.kd f := (hx.kd f f1 fb).1
        have hw2 := hx.po.wd 2 f
        rw [(hx.kd f f1 fb).1] at hw2
        rw [nx_eq, show (0 : Int32) = nI 0 from rfl, up_I, Option.bind_some, if_neg (nI_nlt (Nat.zero_le _) (by omega)), rdA_z _ 12 (by omega) (by decide), Option.bind_some, x12, rdA_z _ 2 (by omega) (by decide), Option.bind_some, x2]
        by_cases c3 : A.T.kd f = 1
        · rw [if_pos (show nI (A.T.kd f) = (1 : Int32) by rw [c3]; rfl), if_neg (show ¬ A.T.kd f ≠ 1 from fun q => q c3)]
          unfold Mod_unlink_b82
          refine thr_m FU hx.tl0 (a := 0) (b := 0) (by decide) (by decide) (fun x => if_neg n1) (fun q => by cases q) (fun _ q => by cases q) (fun _ _ hy y0 => ?_)
          rw [if_pos i00]
          refine stp_m hF hy hd hT (h.ai.tl 0) (h.ub hd) (n := 4) (by decide) (fun x => if_neg n1) (fun r0 z hz z0 ze => ?_)
          have hB := ((h.ai.tl 0).rsv (A := A.w_tl 0) hT 4).1 r0
          have hBt := (hA.tl 0).rsv 4
          have bT : (rsvB 4 (A.w_tl 0)).T = A.T := rsvB_T 4 (A.w_tl 0)
          obtain ⟨B, eB⟩ : ∃ B, B = rsvB 4 (A.w_tl 0) := ⟨_, rfl⟩
          rw [← eB] at hz hB hBt bT ⊢
          have ze := ze.trans (SE.z9 x 0)
          have z12 : z.2 12 j = f := by rw [ze.2 12 (by decide) (by decide)]; exact j4
          have zj : j < z.1 12 := by rw [ze.1]; exact j1
          have hk : B.T.kd f = 1 := by rw [bT]; exact c3
          have l1 : 1 ≤ B.T.lk f := lk_pos hB.tw hBt.t (d := d) (n := nm) (by rw [bT]; exact ef.symm) hk
          have l2 := hB.lkb hBt.t hk
          rw [if_pos i00, rdA_z z 12 (by omega) (by decide), Option.bind_some, z12]
          refine (removeEntry_z hF hz zj).bd ?_
          rintro _ ⟨v, rfl, hv, v0, -⟩
          rw [ze.2 11 (by decide) (by decide), j2, ze.nm, j3] at hv
          refine (loosen_z hF hv f1 fb hk l1 (by have : B.T.lk f < 2 ^ 31 := by omega
                                                 exact this)).bd ?_
          rintro _ ⟨u, rfl, hu, u0⟩
          have e9 : ((B.w_T (B.T.put d nm 0)).w_T ((B.w_T (B.T.put d nm 0)).T.loose f)).w_rn (va_up (B.w_T (B.T.put d nm 0)).rn f true) = (B.w_T ((B.T.put d nm 0).loose f)).w_rn (va_up B.rn f true) := by
            refine AB_ext ?_ ?_ ?_ ?_ ?_ ?_ ?_ ?_ ?_ ?_ ?_ ?_ ?_ ?_ ?_ ?_ <;> simp only [wr_tp_tp, wr_tp_tl, wr_tp_tb, wr_tp_ol, wr_tp_dv, wr_tp_ct, wr_tp_us, wr_tp_fr, wr_tp_tk, wr_tp_rm, wr_tp_fw, wr_tp_T, wr_tp_O, wr_tp_S, wr_tp_F, wr_tp_rn, wr_tl_tp, wr_tl_tl, wr_tl_tb, wr_tl_ol, wr_tl_dv, wr_tl_ct, wr_tl_us, wr_tl_fr, wr_tl_tk, wr_tl_rm, wr_tl_fw, wr_tl_T, wr_tl_O, wr_tl_S, wr_tl_F, wr_tl_rn, wr_tb_tp, wr_tb_tl, wr_tb_tb, wr_tb_ol, wr_tb_dv, wr_tb_ct, wr_tb_us, wr_tb_fr, wr_tb_tk, wr_tb_rm, wr_tb_fw, wr_tb_T, wr_tb_O, wr_tb_S, wr_tb_F, wr_tb_rn, wr_ol_tp, wr_ol_tl, wr_ol_tb, wr_ol_ol, wr_ol_dv, wr_ol_ct, wr_ol_us, wr_ol_fr, wr_ol_tk, wr_ol_rm, wr_ol_fw, wr_ol_T, wr_ol_O, wr_ol_S, wr_ol_F, wr_ol_rn, wr_dv_tp, wr_dv_tl, wr_dv_tb, wr_dv_ol, wr_dv_dv, wr_dv_ct, wr_dv_us, wr_dv_fr, wr_dv_tk, wr_dv_rm, wr_dv_fw, wr_dv_T, wr_dv_O, wr_dv_S, wr_dv_F, wr_dv_rn, wr_ct_tp, wr_ct_tl, wr_ct_tb, wr_ct_ol, wr_ct_dv, wr_ct_ct, wr_ct_us, wr_ct_fr, wr_ct_tk, wr_ct_rm, wr_ct_fw, wr_ct_T, wr_ct_O, wr_ct_S, wr_ct_F, wr_ct_rn, wr_us_tp, wr_us_tl, wr_us_tb, wr_us_ol, wr_us_dv, wr_us_ct, wr_us_us, wr_us_fr, wr_us_tk, wr_us_rm, wr_us_fw, wr_us_T, wr_us_O, wr_us_S, wr_us_F, wr_us_rn, wr_fr_tp, wr_fr_tl, wr_fr_tb, wr_fr_ol, wr_fr_dv, wr_fr_ct, wr_fr_us, wr_fr_fr, wr_fr_tk, wr_fr_rm, wr_fr_fw, wr_fr_T, wr_fr_O, wr_fr_S, wr_fr_F, wr_fr_rn, wr_tk_tp, wr_tk_tl, wr_tk_tb, wr_tk_ol, wr_tk_dv, wr_tk_ct, wr_tk_us, wr_tk_fr, wr_tk_tk, wr_tk_rm, wr_tk_fw, wr_tk_T, wr_tk_O, wr_tk_S, wr_tk_F, wr_tk_rn, wr_rm_tp, wr_rm_tl, wr_rm_tb, wr_rm_ol, wr_rm_dv, wr_rm_ct, wr_rm_us, wr_rm_fr, wr_rm_tk, wr_rm_rm, wr_rm_fw, wr_rm_T, wr_rm_O, wr_rm_S, wr_rm_F, wr_rm_rn, wr_fw_tp, wr_fw_tl, wr_fw_tb, wr_fw_ol, wr_fw_dv, wr_fw_ct, wr_fw_us, wr_fw_fr, wr_fw_tk, wr_fw_rm, wr_fw_fw, wr_fw_T, wr_fw_O, wr_fw_S, wr_fw_F, wr_fw_rn, wr_T_tp, wr_T_tl, wr_T_tb, wr_T_ol, wr_T_dv, wr_T_ct, wr_T_us, wr_T_fr, wr_T_tk, wr_T_rm, wr_T_fw, wr_T_T, wr_T_O, wr_T_S, wr_T_F, wr_T_rn, wr_O_tp, wr_O_tl, wr_O_tb, wr_O_ol, wr_O_dv, wr_O_ct, wr_O_us, wr_O_fr, wr_O_tk, wr_O_rm, wr_O_fw, wr_O_T, wr_O_O, wr_O_S, wr_O_F, wr_O_rn, wr_S_tp, wr_S_tl, wr_S_tb, wr_S_ol, wr_S_dv, wr_S_ct, wr_S_us, wr_S_fr, wr_S_tk, wr_S_rm, wr_S_fw, wr_S_T, wr_S_O, wr_S_S, wr_S_F, wr_S_rn, wr_F_tp, wr_F_tl, wr_F_tb, wr_F_ol, wr_F_dv, wr_F_ct, wr_F_us, wr_F_fr, wr_F_tk, wr_F_rm, wr_F_fw, wr_F_T, wr_F_O, wr_F_S, wr_F_F, wr_F_rn, wr_rn_tp, wr_rn_tl, wr_rn_tb, wr_rn_ol, wr_rn_dv, wr_rn_ct, wr_rn_us, wr_rn_fr, wr_rn_tk, wr_rn_rm, wr_rn_fw, wr_rn_T, wr_rn_O, wr_rn_S, wr_rn_F, wr_rn_rn]
          rw [e9] at hu
          refine AnsM.mk hu (by rw [u0, v0, z0]) (fun _ => rfl)
        · rw [if_neg (fun v : nI (A.T.kd f) = (1 : Int32) => c3 ((eqN hw2 (c := 1) (by decide)).mp v)), if_pos c3]
          exact bad2 _
      · rw [← enm] at j1 ⊢
        rw [j2, Option.bind_some, j1]
        unfold Mod_unlink_b48 Mod_done
        rw [nx_eq, show (0 : Int32) = nI 0 from rfl, up_I, Option.bind_some, if_pos (show (-1 : Int32) < nI 0 by decide), if_pos (show A.T.kd 0 ≠ 1 by rw [hx.kd0 hT (v := 0) (by decide)]; decide)]
        exact bad2 _
    · rw [if_neg c2, if_pos rfl, if_pos (show ¬ (nmOk A.tp A.tl 0 n = true ∧ A.T.kd d = 2) from fun q => c2 q.1)]
      exact bad1
  · rw [if_neg c1, if_pos i00, if_pos (show ¬ (nmOk A.tp A.tl 0 n = true ∧ A.T.kd d = 2) from fun q => c1 q.2)]
    exact bad1
theorem mo_rmdir {FU : Nat} (hF : 140000 < FU) {w : NSt} {A : AB} (h : MH w A) {d n : Nat} (hd' : d < 2 ^ 32) (hn : n < 2 ^ 32) : AnsV (Mod_removeDirectory FU (nI d) (nI n) (up w)) (rmdirA d n A).1 (rmdirA d n A) := by
  unfold Mod_removeDirectory rmdirA
  refine off_v FU h.mi (fun x => if_neg n1) (fun hd hx x0 => ?_)
  obtain ⟨x, ex⟩ : ∃ x, x = thw w 0 := ⟨_, rfl⟩
  rw [← ex] at hx x0 ⊢
  have hA := h.tt hd
  have hT := hA.t
  have bad1 : AnsV (Mod_removeDirectory_b26 FU (nI d) (nI n) (up x)) 1 (1, 0, A.w_tl 0) := by
    unfold Mod_removeDirectory_b26 Mod_removeDirectory_b31 Mod_removeDirectory_b47 Mod_removeDirectory_b90 Mod_removeDirectory_b95 Mod_done
    rw [if_neg (show ¬ (1 : Int32) = 0 by decide), nx_eq, show (0 : Int32) = nI 0 from rfl, up_I, Option.bind_some, if_pos (show (-1 : Int32) < nI 0 by decide)]
    exact thr_v FU hx.tl0 (a := 1) (b := 1) (by decide) (by decide) (fun x => if_neg n1) (fun _ => rfl) (fun q => by cases q) (fun q => by cases q)
  have bad2 : ∀ v : Int32, AnsV (Mod_removeDirectory_b90 FU v (nI 0) (up (zI x 9 0))) 2 (2, 0, A.w_tl 0) := fun v => by
    unfold Mod_removeDirectory_b90 Mod_removeDirectory_b95
    exact thr_v FU hx.tl0 (a := 0) (b := 1) (by decide) (by decide) (fun x => if_neg n1) (fun q => by cases q) (fun _ _ => rfl) (fun _ q => by cases q)
  rw [if_pos i00, show (2 : Int32) = nI 2 from rfl, is_z FU hx hT hd' (by decide), Option.bind_some]
  by_cases c1 : A.T.kd d = 2
  · rw [if_pos c1, if_neg n1, show (0 : Int32) = nI 0 from rfl, moName_z hF hx (by decide) hn, Option.bind_some]
    by_cases c2 : nmOk A.tp A.tl 0 n = true
    · rw [if_pos c2, if_neg (show ¬ nI 1 = nI 0 by decide), if_neg (show ¬ ¬ (nmOk A.tp A.tl 0 n = true ∧ A.T.kd d = 2) from fun q => q ⟨c2, c1⟩)]
      unfold Mod_removeDirectory_b31
      rw [if_pos i00, show (0 : Int32) = nI 0 from rfl]
      obtain ⟨nm, enm⟩ : ∃ nm, nm = nmN A.tp 0 n := ⟨_, rfl⟩
      have hE := hx.en.le
      rcases seek_z hF hx hd' c2 with ⟨j, j1, j2, j3, j4, j5, j6⟩ | ⟨j1, j2⟩
      · rw [← enm] at j3 j4 j5 ⊢
        obtain ⟨f, ef⟩ : ∃ f, f = A.T.ent d nm := ⟨_, rfl⟩
        rw [← ef] at j4 j5 ⊢
        have fb : f ≤ 250 := by
          have := (hx.en.en j j1).2.2
          omega
        have f1 : 1 ≤ f := by omega
        rw [j6, Option.bind_some]
        unfold Mod_removeDirectory_b47 Mod_done
        have x12 : (zI x 9 0).2 12 j = f := j4
        have x2 : (zI x 9 0).2 2 f = A.T.kd f := (hx.kd f f1 fb).1
        have hw2 := hx.po.wd 2 f
        rw [(hx.kd f f1 fb).1] at hw2
        rw [nx_eq, show (0 : Int32) = nI 0 from rfl, up_I, Option.bind_some, if_neg (nI_nlt (Nat.zero_le _) (by omega)), rdA_z _ 12 (by omega) (by decide), Option.bind_some, x12, rdA_z _ 2 (by omega) (by decide), Option.bind_some, x2]
        by_cases c3 : A.T.kd f = 2
        · rw [if_pos (show nI (A.T.kd f) = (2 : Int32) by rw [c3]; rfl), Option.bind_some, namesOf_z hF hx.tl0 (d := f) (by omega), Option.bind_some]
          have hfull := hT.full f c3
          have en : (A.w_tl 0).T = A.T := rfl
          rw [en]
          obtain ⟨nc, enc⟩ : ∃ nc, nc = nmc (A.T.ent f) := ⟨_, rfl⟩
          rw [← enc] at hfull ⊢
          by_cases c4 : 0 < nc
          · rw [if_neg (nI_ge c4 (by omega)), if_pos (Or.inr c4)]
            exact bad2 _
          · rw [if_pos (nI_le (by omega) (by decide)), if_neg (show ¬ (A.T.kd f ≠ 2 ∨ 0 < nc) from fun q => by
              rcases q with q | q
              · exact q c3
              · exact c4 q)]
            unfold Mod_removeDirectory_b95
            refine thr_v FU hx.tl0 (a := 0) (b := 0) (by decide) (by decide) (fun x => if_neg n1) (fun q => by cases q) (fun _ q => by cases q) (fun _ _ hy y0 => ?_)
            rw [if_pos i00]
            refine stp_v hF hy hd hT (h.ai.tl 0) (h.ub hd) (n := 4) (by decide) (fun x => if_neg n1) (fun r0 z hz z0 ze => ?_)
            obtain ⟨B, eB⟩ : ∃ B, B = rsvB 4 (A.w_tl 0) := ⟨_, rfl⟩
            rw [← eB] at hz ⊢
            have ze := ze.trans (SE.z9 x 0)
            have z12 : z.2 12 j = f := by rw [ze.2 12 (by decide) (by decide)]; exact j4
            rw [if_pos i00, rdA_z z 12 (by omega) (by decide), Option.bind_some, z12]
            refine (dropD_z hF hz fb (hz.rn f f1 fb).1).bd ?_
            rintro _ ⟨v, rfl, hv, v0, va⟩
            have vj : j < v.1 12 := by rw [v0, ze.1]; exact j1
            refine (removeEntry_z hF hv vj).bd ?_
            rintro _ ⟨u, rfl, hu, u0, -⟩
            have en2 : nmK v 13 14 j = nm := by
              have : nmK v 13 14 j = nmK z 13 14 j := by
                unfold nmK
                rw [va 13 (by decide), va 14 (by decide)]
              rw [this, ze.nm, j3]
            rw [va 11 (by decide), ze.2 11 (by decide) (by decide), j2, en2] at hu
            have e9 : (B.w_T (B.T.wKd (va_up B.T.kd f 0))).w_T ((B.w_T (B.T.wKd (va_up B.T.kd f 0))).T.put d nm 0) = B.w_T ((B.T.put d nm 0).wKd (va_up B.T.kd f 0)) := by
              refine AB_ext ?_ ?_ ?_ ?_ ?_ ?_ ?_ ?_ ?_ ?_ ?_ ?_ ?_ ?_ ?_ ?_ <;> simp only [wr_tp_tp, wr_tp_tl, wr_tp_tb, wr_tp_ol, wr_tp_dv, wr_tp_ct, wr_tp_us, wr_tp_fr, wr_tp_tk, wr_tp_rm, wr_tp_fw, wr_tp_T, wr_tp_O, wr_tp_S, wr_tp_F, wr_tp_rn, wr_tl_tp, wr_tl_tl, wr_tl_tb, wr_tl_ol, wr_tl_dv, wr_tl_ct, wr_tl_us, wr_tl_fr, wr_tl_tk, wr_tl_rm, wr_tl_fw, wr_tl_T, wr_tl_O, wr_tl_S, wr_tl_F, wr_tl_rn, wr_tb_tp, wr_tb_tl, wr_tb_tb, wr_tb_ol, wr_tb_dv, wr_tb_ct, wr_tb_us, wr_tb_fr, wr_tb_tk, wr_tb_rm, wr_tb_fw, wr_tb_T, wr_tb_O, wr_tb_S, wr_tb_F, wr_tb_rn, wr_ol_tp, wr_ol_tl, wr_ol_tb, wr_ol_ol, wr_ol_dv, wr_ol_ct, wr_ol_us, wr_ol_fr, wr_ol_tk, wr_ol_rm, wr_ol_fw, wr_ol_T, wr_ol_O, wr_ol_S, wr_ol_F, wr_ol_rn, wr_dv_tp, wr_dv_tl, wr_dv_tb, wr_dv_ol, wr_dv_dv, wr_dv_ct, wr_dv_us, wr_dv_fr, wr_dv_tk, wr_dv_rm, wr_dv_fw, wr_dv_T, wr_dv_O, wr_dv_S, wr_dv_F, wr_dv_rn, wr_ct_tp, wr_ct_tl, wr_ct_tb, wr_ct_ol, wr_ct_dv, wr_ct_ct, wr_ct_us, wr_ct_fr, wr_ct_tk, wr_ct_rm, wr_ct_fw, wr_ct_T, wr_ct_O, wr_ct_S, wr_ct_F, wr_ct_rn, wr_us_tp, wr_us_tl, wr_us_tb, wr_us_ol, wr_us_dv, wr_us_ct, wr_us_us, wr_us_fr, wr_us_tk, wr_us_rm, wr_us_fw, wr_us_T, wr_us_O, wr_us_S, wr_us_F, wr_us_rn, wr_fr_tp, wr_fr_tl, wr_fr_tb, wr_fr_ol, wr_fr_dv, wr_fr_ct, wr_fr_us, wr_fr_fr, wr_fr_tk, wr_fr_rm, wr_fr_fw, wr_fr_T, wr_fr_O, wr_fr_S, wr_fr_F, wr_fr_rn, wr_tk_tp, wr_tk_tl, wr_tk_tb, wr_tk_ol, wr_tk_dv, wr_tk_ct, wr_tk_us, wr_tk_fr, wr_tk_tk, wr_tk_rm, wr_tk_fw, wr_tk_T, wr_tk_O, wr_tk_S, wr_tk_F, wr_tk_rn, wr_rm_tp, wr_rm_tl, wr_rm_tb, wr_rm_ol, wr_rm_dv, wr_rm_ct, wr_rm_us, wr_rm_fr, wr_rm_tk, wr_rm_rm, wr_rm_fw, wr_rm_T, wr_rm_O, wr_rm_S, wr_rm_F, wr_rm_rn, wr_fw_tp, wr_fw_tl, wr_fw_tb, wr_fw_ol, wr_fw_dv, wr_fw_ct, wr_fw_us, wr_fw_fr, wr_fw_tk, wr_fw_rm, wr_fw_fw, wr_fw_T, wr_fw_O, wr_fw_S, wr_fw_F, wr_fw_rn, wr_T_tp, wr_T_tl, wr_T_tb, wr_T_ol, wr_T_dv, wr_T_ct, wr_T_us, wr_T_fr, wr_T_tk, wr_T_rm, wr_T_fw, wr_T_T, wr_T_O, wr_T_S, wr_T_F, wr_T_rn, wr_O_tp, wr_O_tl, wr_O_tb, wr_O_ol, wr_O_dv, wr_O_ct, wr_O_us, wr_O_fr, wr_O_tk, wr_O_rm, wr_O_fw, wr_O_T, wr_O_O, wr_O_S, wr_O_F, wr_O_rn, wr_S_tp, wr_S_tl, wr_S_tb, wr_S_ol, wr_S_dv, wr_S_ct, wr_S_us, wr_S_fr, wr_S_tk, wr_S_rm, wr_S_fw, wr_S_T, wr_S_O, wr_S_S, wr_S_F, wr_S_rn, wr_F_tp, wr_F_tl, wr_F_tb, wr_F_ol, wr_F_dv, wr_F_ct, wr_F_us, wr_F_fr, wr_F_tk, wr_F_rm, wr_F_fw, wr_F_T, wr_F_O, wr_F_S, wr_F_F, wr_F_rn, wr_rn_tp, wr_rn_tl, wr_rn_tb, wr_rn_ol, wr_rn_dv, wr_rn_ct, wr_rn_us, wr_rn_fr, wr_rn_tk, wr_rn_rm, wr_rn_fw, wr_rn_T, wr_rn_O, wr_rn_S, wr_rn_F, wr_rn_rn]
              rfl
            rw [e9] at hu
            exact AnsV.mk hu (by rw [u0, v0, z0])
        · rw [if_neg (fun v : nI (A.T.kd f) = (2 : Int32) => c3 ((eqN hw2 (c := 2) (by decide)).mp v)), if_pos (Or.inl c3)]
          exact bad2 _
      · rw [← enm] at j1 ⊢
        rw [j2, Option.bind_some, j1]
        unfold Mod_removeDirectory_b47 Mod_done
        rw [nx_eq, show (0 : Int32) = nI 0 from rfl, up_I, Option.bind_some, if_pos (show (-1 : Int32) < nI 0 by decide), if_pos (Or.inl (show A.T.kd 0 ≠ 2 by rw [hx.kd0 hT (v := 0) (by decide)]; decide))]
        exact bad2 _
    · rw [if_neg c2, if_pos rfl, if_pos (show ¬ (nmOk A.tp A.tl 0 n = true ∧ A.T.kd d = 2) from fun q => c2 q.1)]
      exact bad1
  · rw [if_neg c1, if_pos i00, if_pos (show ¬ (nmOk A.tp A.tl 0 n = true ∧ A.T.kd d = 2) from fun q => c1 q.2)]
    exact bad1
