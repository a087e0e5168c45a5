/-! one field written, another one read -/
theorem wr_tp_tp (A : AB) (v : Nat → Nat) : (A.w_tp v).tp = v := rfl
theorem wr_tp_tl (A : AB) (v : Nat → Nat) : (A.w_tp v).tl = A.tl := rfl
theorem wr_tp_tb (A : AB) (v : Nat → Nat) : (A.w_tp v).tb = A.tb := rfl
theorem wr_tp_ol (A : AB) (v : Nat → Nat) : (A.w_tp v).ol = A.ol := rfl
theorem wr_tp_dv (A : AB) (v : Nat → Nat) : (A.w_tp v).dv = A.dv := rfl
theorem wr_tp_ct (A : AB) (v : Nat → Nat) : (A.w_tp v).ct = A.ct := rfl
theorem wr_tp_us (A : AB) (v : Nat → Nat) : (A.w_tp v).us = A.us := rfl
theorem wr_tp_fr (A : AB) (v : Nat → Nat) : (A.w_tp v).fr = A.fr := rfl
theorem wr_tp_tk (A : AB) (v : Nat → Nat) : (A.w_tp v).tk = A.tk := rfl
theorem wr_tp_rm (A : AB) (v : Nat → Nat) : (A.w_tp v).rm = A.rm := rfl
theorem wr_tp_fw (A : AB) (v : Nat → Nat) : (A.w_tp v).fw = A.fw := rfl
theorem wr_tp_T (A : AB) (v : Nat → Nat) : (A.w_tp v).T = A.T := rfl
theorem wr_tp_O (A : AB) (v : Nat → Nat) : (A.w_tp v).O = A.O := rfl
theorem wr_tp_S (A : AB) (v : Nat → Nat) : (A.w_tp v).S = A.S := rfl
theorem wr_tp_F (A : AB) (v : Nat → Nat) : (A.w_tp v).F = A.F := rfl
theorem wr_tp_rn (A : AB) (v : Nat → Nat) : (A.w_tp v).rn = A.rn := rfl
theorem wr_tl_tp (A : AB) (v : Nat) : (A.w_tl v).tp = A.tp := rfl
theorem wr_tl_tl (A : AB) (v : Nat) : (A.w_tl v).tl = v := rfl
theorem wr_tl_tb (A : AB) (v : Nat) : (A.w_tl v).tb = A.tb := rfl
theorem wr_tl_ol (A : AB) (v : Nat) : (A.w_tl v).ol = A.ol := rfl
theorem wr_tl_dv (A : AB) (v : Nat) : (A.w_tl v).dv = A.dv := rfl
theorem wr_tl_ct (A : AB) (v : Nat) : (A.w_tl v).ct = A.ct := rfl
theorem wr_tl_us (A : AB) (v : Nat) : (A.w_tl v).us = A.us := rfl
theorem wr_tl_fr (A : AB) (v : Nat) : (A.w_tl v).fr = A.fr := rfl
theorem wr_tl_tk (A : AB) (v : Nat) : (A.w_tl v).tk = A.tk := rfl
theorem wr_tl_rm (A : AB) (v : Nat) : (A.w_tl v).rm = A.rm := rfl
theorem wr_tl_fw (A : AB) (v : Nat) : (A.w_tl v).fw = A.fw := rfl
theorem wr_tl_T (A : AB) (v : Nat) : (A.w_tl v).T = A.T := rfl
theorem wr_tl_O (A : AB) (v : Nat) : (A.w_tl v).O = A.O := rfl
theorem wr_tl_S (A : AB) (v : Nat) : (A.w_tl v).S = A.S := rfl
theorem wr_tl_F (A : AB) (v : Nat) : (A.w_tl v).F = A.F := rfl
theorem wr_tl_rn (A : AB) (v : Nat) : (A.w_tl v).rn = A.rn := rfl
theorem wr_tb_tp (A : AB) (v : Nat → Nat) : (A.w_tb v).tp = A.tp := rfl
theorem wr_tb_tl (A : AB) (v : Nat → Nat) : (A.w_tb v).tl = A.tl := rfl
theorem wr_tb_tb (A : AB) (v : Nat → Nat) : (A.w_tb v).tb = v := rfl
theorem wr_tb_ol (A : AB) (v : Nat → Nat) : (A.w_tb v).ol = A.ol := rfl
theorem wr_tb_dv (A : AB) (v : Nat → Nat) : (A.w_tb v).dv = A.dv := rfl
theorem wr_tb_ct (A : AB) (v : Nat → Nat) : (A.w_tb v).ct = A.ct := rfl
theorem wr_tb_us (A : AB) (v : Nat → Nat) : (A.w_tb v).us = A.us := rfl
theorem wr_tb_fr (A : AB) (v : Nat → Nat) : (A.w_tb v).fr = A.fr := rfl
theorem wr_tb_tk (A : AB) (v : Nat → Nat) : (A.w_tb v).tk = A.tk := rfl
theorem wr_tb_rm (A : AB) (v : Nat → Nat) : (A.w_tb v).rm = A.rm := rfl
theorem wr_tb_fw (A : AB) (v : Nat → Nat) : (A.w_tb v).fw = A.fw := rfl
theorem wr_tb_T (A : AB) (v : Nat → Nat) : (A.w_tb v).T = A.T := rfl
theorem wr_tb_O (A : AB) (v : Nat → Nat) : (A.w_tb v).O = A.O := rfl
theorem wr_tb_S (A : AB) (v : Nat → Nat) : (A.w_tb v).S = A.S := rfl
theorem wr_tb_F (A : AB) (v : Nat → Nat) : (A.w_tb v).F = A.F := rfl
theorem wr_tb_rn (A : AB) (v : Nat → Nat) : (A.w_tb v).rn = A.rn := rfl
theorem wr_ol_tp (A : AB) (v : Nat) : (A.w_ol v).tp = A.tp := rfl
theorem wr_ol_tl (A : AB) (v : Nat) : (A.w_ol v).tl = A.tl := rfl
theorem wr_ol_tb (A : AB) (v : Nat) : (A.w_ol v).tb = A.tb := rfl
theorem wr_ol_ol (A : AB) (v : Nat) : (A.w_ol v).ol = v := rfl
theorem wr_ol_dv (A : AB) (v : Nat) : (A.w_ol v).dv = A.dv := rfl
theorem wr_ol_ct (A : AB) (v : Nat) : (A.w_ol v).ct = A.ct := rfl
theorem wr_ol_us (A : AB) (v : Nat) : (A.w_ol v).us = A.us := rfl
theorem wr_ol_fr (A : AB) (v : Nat) : (A.w_ol v).fr = A.fr := rfl
theorem wr_ol_tk (A : AB) (v : Nat) : (A.w_ol v).tk = A.tk := rfl
theorem wr_ol_rm (A : AB) (v : Nat) : (A.w_ol v).rm = A.rm := rfl
theorem wr_ol_fw (A : AB) (v : Nat) : (A.w_ol v).fw = A.fw := rfl
theorem wr_ol_T (A : AB) (v : Nat) : (A.w_ol v).T = A.T := rfl
theorem wr_ol_O (A : AB) (v : Nat) : (A.w_ol v).O = A.O := rfl
theorem wr_ol_S (A : AB) (v : Nat) : (A.w_ol v).S = A.S := rfl
theorem wr_ol_F (A : AB) (v : Nat) : (A.w_ol v).F = A.F := rfl
theorem wr_ol_rn (A : AB) (v : Nat) : (A.w_ol v).rn = A.rn := rfl
theorem wr_dv_tp (A : AB) (v : Nat) : (A.w_dv v).tp = A.tp := rfl
theorem wr_dv_tl (A : AB) (v : Nat) : (A.w_dv v).tl = A.tl := rfl
theorem wr_dv_tb (A : AB) (v : Nat) : (A.w_dv v).tb = A.tb := rfl
theorem wr_dv_ol (A : AB) (v : Nat) : (A.w_dv v).ol = A.ol := rfl
theorem wr_dv_dv (A : AB) (v : Nat) : (A.w_dv v).dv = v := rfl
theorem wr_dv_ct (A : AB) (v : Nat) : (A.w_dv v).ct = A.ct := rfl
theorem wr_dv_us (A : AB) (v : Nat) : (A.w_dv v).us = A.us := rfl
theorem wr_dv_fr (A : AB) (v : Nat) : (A.w_dv v).fr = A.fr := rfl
theorem wr_dv_tk (A : AB) (v : Nat) : (A.w_dv v).tk = A.tk := rfl
theorem wr_dv_rm (A : AB) (v : Nat) : (A.w_dv v).rm = A.rm := rfl
theorem wr_dv_fw (A : AB) (v : Nat) : (A.w_dv v).fw = A.fw := rfl
theorem wr_dv_T (A : AB) (v : Nat) : (A.w_dv v).T = A.T := rfl
theorem wr_dv_O (A : AB) (v : Nat) : (A.w_dv v).O = A.O := rfl
theorem wr_dv_S (A : AB) (v : Nat) : (A.w_dv v).S = A.S := rfl
theorem wr_dv_F (A : AB) (v : Nat) : (A.w_dv v).F = A.F := rfl
theorem wr_dv_rn (A : AB) (v : Nat) : (A.w_dv v).rn = A.rn := rfl
theorem wr_ct_tp (A : AB) (v : Nat) : (A.w_ct v).tp = A.tp := rfl
theorem wr_ct_tl (A : AB) (v : Nat) : (A.w_ct v).tl = A.tl := rfl
theorem wr_ct_tb (A : AB) (v : Nat) : (A.w_ct v).tb = A.tb := rfl
theorem wr_ct_ol (A : AB) (v : Nat) : (A.w_ct v).ol = A.ol := rfl
theorem wr_ct_dv (A : AB) (v : Nat) : (A.w_ct v).dv = A.dv := rfl
theorem wr_ct_ct (A : AB) (v : Nat) : (A.w_ct v).ct = v := rfl
theorem wr_ct_us (A : AB) (v : Nat) : (A.w_ct v).us = A.us := rfl
theorem wr_ct_fr (A : AB) (v : Nat) : (A.w_ct v).fr = A.fr := rfl
theorem wr_ct_tk (A : AB) (v : Nat) : (A.w_ct v).tk = A.tk := rfl
theorem wr_ct_rm (A : AB) (v : Nat) : (A.w_ct v).rm = A.rm := rfl
theorem wr_ct_fw (A : AB) (v : Nat) : (A.w_ct v).fw = A.fw := rfl
theorem wr_ct_T (A : AB) (v : Nat) : (A.w_ct v).T = A.T := rfl
theorem wr_ct_O (A : AB) (v : Nat) : (A.w_ct v).O = A.O := rfl
theorem wr_ct_S (A : AB) (v : Nat) : (A.w_ct v).S = A.S := rfl
theorem wr_ct_F (A : AB) (v : Nat) : (A.w_ct v).F = A.F := rfl
theorem wr_ct_rn (A : AB) (v : Nat) : (A.w_ct v).rn = A.rn := rfl
theorem wr_us_tp (A : AB) (v : Nat) : (A.w_us v).tp = A.tp := rfl
theorem wr_us_tl (A : AB) (v : Nat) : (A.w_us v).tl = A.tl := rfl
theorem wr_us_tb (A : AB) (v : Nat) : (A.w_us v).tb = A.tb := rfl
theorem wr_us_ol (A : AB) (v : Nat) : (A.w_us v).ol = A.ol := rfl
theorem wr_us_dv (A : AB) (v : Nat) : (A.w_us v).dv = A.dv := rfl
theorem wr_us_ct (A : AB) (v : Nat) : (A.w_us v).ct = A.ct := rfl
theorem wr_us_us (A : AB) (v : Nat) : (A.w_us v).us = v := rfl
theorem wr_us_fr (A : AB) (v : Nat) : (A.w_us v).fr = A.fr := rfl
theorem wr_us_tk (A : AB) (v : Nat) : (A.w_us v).tk = A.tk := rfl
theorem wr_us_rm (A : AB) (v : Nat) : (A.w_us v).rm = A.rm := rfl
theorem wr_us_fw (A : AB) (v : Nat) : (A.w_us v).fw = A.fw := rfl
theorem wr_us_T (A : AB) (v : Nat) : (A.w_us v).T = A.T := rfl
theorem wr_us_O (A : AB) (v : Nat) : (A.w_us v).O = A.O := rfl
theorem wr_us_S (A : AB) (v : Nat) : (A.w_us v).S = A.S := rfl
theorem wr_us_F (A : AB) (v : Nat) : (A.w_us v).F = A.F := rfl
theorem wr_us_rn (A : AB) (v : Nat) : (A.w_us v).rn = A.rn := rfl
theorem wr_fr_tp (A : AB) (v : Nat) : (A.w_fr v).tp = A.tp := rfl
theorem wr_fr_tl (A : AB) (v : Nat) : (A.w_fr v).tl = A.tl := rfl
theorem wr_fr_tb (A : AB) (v : Nat) : (A.w_fr v).tb = A.tb := rfl
theorem wr_fr_ol (A : AB) (v : Nat) : (A.w_fr v).ol = A.ol := rfl
theorem wr_fr_dv (A : AB) (v : Nat) : (A.w_fr v).dv = A.dv := rfl
theorem wr_fr_ct (A : AB) (v : Nat) : (A.w_fr v).ct = A.ct := rfl
theorem wr_fr_us (A : AB) (v : Nat) : (A.w_fr v).us = A.us := rfl
theorem wr_fr_fr (A : AB) (v : Nat) : (A.w_fr v).fr = v := rfl
theorem wr_fr_tk (A : AB) (v : Nat) : (A.w_fr v).tk = A.tk := rfl
theorem wr_fr_rm (A : AB) (v : Nat) : (A.w_fr v).rm = A.rm := rfl
theorem wr_fr_fw (A : AB) (v : Nat) : (A.w_fr v).fw = A.fw := rfl
theorem wr_fr_T (A : AB) (v : Nat) : (A.w_fr v).T = A.T := rfl
theorem wr_fr_O (A : AB) (v : Nat) : (A.w_fr v).O = A.O := rfl
theorem wr_fr_S (A : AB) (v : Nat) : (A.w_fr v).S = A.S := rfl
theorem wr_fr_F (A : AB) (v : Nat) : (A.w_fr v).F = A.F := rfl
theorem wr_fr_rn (A : AB) (v : Nat) : (A.w_fr v).rn = A.rn := rfl
theorem wr_tk_tp (A : AB) (v : Nat) : (A.w_tk v).tp = A.tp := rfl
theorem wr_tk_tl (A : AB) (v : Nat) : (A.w_tk v).tl = A.tl := rfl
theorem wr_tk_tb (A : AB) (v : Nat) : (A.w_tk v).tb = A.tb := rfl
theorem wr_tk_ol (A : AB) (v : Nat) : (A.w_tk v).ol = A.ol := rfl
theorem wr_tk_dv (A : AB) (v : Nat) : (A.w_tk v).dv = A.dv := rfl
theorem wr_tk_ct (A : AB) (v : Nat) : (A.w_tk v).ct = A.ct := rfl
theorem wr_tk_us (A : AB) (v : Nat) : (A.w_tk v).us = A.us := rfl
theorem wr_tk_fr (A : AB) (v : Nat) : (A.w_tk v).fr = A.fr := rfl
theorem wr_tk_tk (A : AB) (v : Nat) : (A.w_tk v).tk = v := rfl
theorem wr_tk_rm (A : AB) (v : Nat) : (A.w_tk v).rm = A.rm := rfl
theorem wr_tk_fw (A : AB) (v : Nat) : (A.w_tk v).fw = A.fw := rfl
theorem wr_tk_T (A : AB) (v : Nat) : (A.w_tk v).T = A.T := rfl
theorem wr_tk_O (A : AB) (v : Nat) : (A.w_tk v).O = A.O := rfl
theorem wr_tk_S (A : AB) (v : Nat) : (A.w_tk v).S = A.S := rfl
theorem wr_tk_F (A : AB) (v : Nat) : (A.w_tk v).F = A.F := rfl
theorem wr_tk_rn (A : AB) (v : Nat) : (A.w_tk v).rn = A.rn := rfl
theorem wr_rm_tp (A : AB) (v : Nat) : (A.w_rm v).tp = A.tp := rfl
theorem wr_rm_tl (A : AB) (v : Nat) : (A.w_rm v).tl = A.tl := rfl
theorem wr_rm_tb (A : AB) (v : Nat) : (A.w_rm v).tb = A.tb := rfl
theorem wr_rm_ol (A : AB) (v : Nat) : (A.w_rm v).ol = A.ol := rfl
theorem wr_rm_dv (A : AB) (v : Nat) : (A.w_rm v).dv = A.dv := rfl
theorem wr_rm_ct (A : AB) (v : Nat) : (A.w_rm v).ct = A.ct := rfl
theorem wr_rm_us (A : AB) (v : Nat) : (A.w_rm v).us = A.us := rfl
theorem wr_rm_fr (A : AB) (v : Nat) : (A.w_rm v).fr = A.fr := rfl
theorem wr_rm_tk (A : AB) (v : Nat) : (A.w_rm v).tk = A.tk := rfl
theorem wr_rm_rm (A : AB) (v : Nat) : (A.w_rm v).rm = v := rfl
theorem wr_rm_fw (A : AB) (v : Nat) : (A.w_rm v).fw = A.fw := rfl
theorem wr_rm_T (A : AB) (v : Nat) : (A.w_rm v).T = A.T := rfl
theorem wr_rm_O (A : AB) (v : Nat) : (A.w_rm v).O = A.O := rfl
theorem wr_rm_S (A : AB) (v : Nat) : (A.w_rm v).S = A.S := rfl
theorem wr_rm_F (A : AB) (v : Nat) : (A.w_rm v).F = A.F := rfl
theorem wr_rm_rn (A : AB) (v : Nat) : (A.w_rm v).rn = A.rn := rfl
theorem wr_fw_tp (A : AB) (v : Nat) : (A.w_fw v).tp = A.tp := rfl
theorem wr_fw_tl (A : AB) (v : Nat) : (A.w_fw v).tl = A.tl := rfl
theorem wr_fw_tb (A : AB) (v : Nat) : (A.w_fw v).tb = A.tb := rfl
theorem wr_fw_ol (A : AB) (v : Nat) : (A.w_fw v).ol = A.ol := rfl
theorem wr_fw_dv (A : AB) (v : Nat) : (A.w_fw v).dv = A.dv := rfl
theorem wr_fw_ct (A : AB) (v : Nat) : (A.w_fw v).ct = A.ct := rfl
theorem wr_fw_us (A : AB) (v : Nat) : (A.w_fw v).us = A.us := rfl
theorem wr_fw_fr (A : AB) (v : Nat) : (A.w_fw v).fr = A.fr := rfl
theorem wr_fw_tk (A : AB) (v : Nat) : (A.w_fw v).tk = A.tk := rfl
theorem wr_fw_rm (A : AB) (v : Nat) : (A.w_fw v).rm = A.rm := rfl
theorem wr_fw_fw (A : AB) (v : Nat) : (A.w_fw v).fw = v := rfl
theorem wr_fw_T (A : AB) (v : Nat) : (A.w_fw v).T = A.T := rfl
theorem wr_fw_O (A : AB) (v : Nat) : (A.w_fw v).O = A.O := rfl
theorem wr_fw_S (A : AB) (v : Nat) : (A.w_fw v).S = A.S := rfl
theorem wr_fw_F (A : AB) (v : Nat) : (A.w_fw v).F = A.F := rfl
theorem wr_fw_rn (A : AB) (v : Nat) : (A.w_fw v).rn = A.rn := rfl
theorem wr_T_tp (A : AB) (v : TRE) : (A.w_T v).tp = A.tp := rfl
theorem wr_T_tl (A : AB) (v : TRE) : (A.w_T v).tl = A.tl := rfl
theorem wr_T_tb (A : AB) (v : TRE) : (A.w_T v).tb = A.tb := rfl
theorem wr_T_ol (A : AB) (v : TRE) : (A.w_T v).ol = A.ol := rfl
theorem wr_T_dv (A : AB) (v : TRE) : (A.w_T v).dv = A.dv := rfl
theorem wr_T_ct (A : AB) (v : TRE) : (A.w_T v).ct = A.ct := rfl
theorem wr_T_us (A : AB) (v : TRE) : (A.w_T v).us = A.us := rfl
theorem wr_T_fr (A : AB) (v : TRE) : (A.w_T v).fr = A.fr := rfl
theorem wr_T_tk (A : AB) (v : TRE) : (A.w_T v).tk = A.tk := rfl
theorem wr_T_rm (A : AB) (v : TRE) : (A.w_T v).rm = A.rm := rfl
theorem wr_T_fw (A : AB) (v : TRE) : (A.w_T v).fw = A.fw := rfl
theorem wr_T_T (A : AB) (v : TRE) : (A.w_T v).T = v := rfl
theorem wr_T_O (A : AB) (v : TRE) : (A.w_T v).O = A.O := rfl
theorem wr_T_S (A : AB) (v : TRE) : (A.w_T v).S = A.S := rfl
theorem wr_T_F (A : AB) (v : TRE) : (A.w_T v).F = A.F := rfl
theorem wr_T_rn (A : AB) (v : TRE) : (A.w_T v).rn = A.rn := rfl
theorem wr_O_tp (A : AB) (v : TRE) : (A.w_O v).tp = A.tp := rfl
theorem wr_O_tl (A : AB) (v : TRE) : (A.w_O v).tl = A.tl := rfl
theorem wr_O_tb (A : AB) (v : TRE) : (A.w_O v).tb = A.tb := rfl
theorem wr_O_ol (A : AB) (v : TRE) : (A.w_O v).ol = A.ol := rfl
theorem wr_O_dv (A : AB) (v : TRE) : (A.w_O v).dv = A.dv := rfl
theorem wr_O_ct (A : AB) (v : TRE) : (A.w_O v).ct = A.ct := rfl
theorem wr_O_us (A : AB) (v : TRE) : (A.w_O v).us = A.us := rfl
theorem wr_O_fr (A : AB) (v : TRE) : (A.w_O v).fr = A.fr := rfl
theorem wr_O_tk (A : AB) (v : TRE) : (A.w_O v).tk = A.tk := rfl
theorem wr_O_rm (A : AB) (v : TRE) : (A.w_O v).rm = A.rm := rfl
theorem wr_O_fw (A : AB) (v : TRE) : (A.w_O v).fw = A.fw := rfl
theorem wr_O_T (A : AB) (v : TRE) : (A.w_O v).T = A.T := rfl
theorem wr_O_O (A : AB) (v : TRE) : (A.w_O v).O = v := rfl
theorem wr_O_S (A : AB) (v : TRE) : (A.w_O v).S = A.S := rfl
theorem wr_O_F (A : AB) (v : TRE) : (A.w_O v).F = A.F := rfl
theorem wr_O_rn (A : AB) (v : TRE) : (A.w_O v).rn = A.rn := rfl
theorem wr_S_tp (A : AB) (v : Nat → Bool) : (A.w_S v).tp = A.tp := rfl
theorem wr_S_tl (A : AB) (v : Nat → Bool) : (A.w_S v).tl = A.tl := rfl
theorem wr_S_tb (A : AB) (v : Nat → Bool) : (A.w_S v).tb = A.tb := rfl
theorem wr_S_ol (A : AB) (v : Nat → Bool) : (A.w_S v).ol = A.ol := rfl
theorem wr_S_dv (A : AB) (v : Nat → Bool) : (A.w_S v).dv = A.dv := rfl
theorem wr_S_ct (A : AB) (v : Nat → Bool) : (A.w_S v).ct = A.ct := rfl
theorem wr_S_us (A : AB) (v : Nat → Bool) : (A.w_S v).us = A.us := rfl
theorem wr_S_fr (A : AB) (v : Nat → Bool) : (A.w_S v).fr = A.fr := rfl
theorem wr_S_tk (A : AB) (v : Nat → Bool) : (A.w_S v).tk = A.tk := rfl
theorem wr_S_rm (A : AB) (v : Nat → Bool) : (A.w_S v).rm = A.rm := rfl
theorem wr_S_fw (A : AB) (v : Nat → Bool) : (A.w_S v).fw = A.fw := rfl
theorem wr_S_T (A : AB) (v : Nat → Bool) : (A.w_S v).T = A.T := rfl
theorem wr_S_O (A : AB) (v : Nat → Bool) : (A.w_S v).O = A.O := rfl
theorem wr_S_S (A : AB) (v : Nat → Bool) : (A.w_S v).S = v := rfl
theorem wr_S_F (A : AB) (v : Nat → Bool) : (A.w_S v).F = A.F := rfl
theorem wr_S_rn (A : AB) (v : Nat → Bool) : (A.w_S v).rn = A.rn := rfl
theorem wr_F_tp (A : AB) (v : Nat → FV) : (A.w_F v).tp = A.tp := rfl
theorem wr_F_tl (A : AB) (v : Nat → FV) : (A.w_F v).tl = A.tl := rfl
theorem wr_F_tb (A : AB) (v : Nat → FV) : (A.w_F v).tb = A.tb := rfl
theorem wr_F_ol (A : AB) (v : Nat → FV) : (A.w_F v).ol = A.ol := rfl
theorem wr_F_dv (A : AB) (v : Nat → FV) : (A.w_F v).dv = A.dv := rfl
theorem wr_F_ct (A : AB) (v : Nat → FV) : (A.w_F v).ct = A.ct := rfl
theorem wr_F_us (A : AB) (v : Nat → FV) : (A.w_F v).us = A.us := rfl
theorem wr_F_fr (A : AB) (v : Nat → FV) : (A.w_F v).fr = A.fr := rfl
theorem wr_F_tk (A : AB) (v : Nat → FV) : (A.w_F v).tk = A.tk := rfl
theorem wr_F_rm (A : AB) (v : Nat → FV) : (A.w_F v).rm = A.rm := rfl
theorem wr_F_fw (A : AB) (v : Nat → FV) : (A.w_F v).fw = A.fw := rfl
theorem wr_F_T (A : AB) (v : Nat → FV) : (A.w_F v).T = A.T := rfl
theorem wr_F_O (A : AB) (v : Nat → FV) : (A.w_F v).O = A.O := rfl
theorem wr_F_S (A : AB) (v : Nat → FV) : (A.w_F v).S = A.S := rfl
theorem wr_F_F (A : AB) (v : Nat → FV) : (A.w_F v).F = v := rfl
theorem wr_F_rn (A : AB) (v : Nat → FV) : (A.w_F v).rn = A.rn := rfl
theorem wr_rn_tp (A : AB) (v : Nat → Bool) : (A.w_rn v).tp = A.tp := rfl
theorem wr_rn_tl (A : AB) (v : Nat → Bool) : (A.w_rn v).tl = A.tl := rfl
theorem wr_rn_tb (A : AB) (v : Nat → Bool) : (A.w_rn v).tb = A.tb := rfl
theorem wr_rn_ol (A : AB) (v : Nat → Bool) : (A.w_rn v).ol = A.ol := rfl
theorem wr_rn_dv (A : AB) (v : Nat → Bool) : (A.w_rn v).dv = A.dv := rfl
theorem wr_rn_ct (A : AB) (v : Nat → Bool) : (A.w_rn v).ct = A.ct := rfl
theorem wr_rn_us (A : AB) (v : Nat → Bool) : (A.w_rn v).us = A.us := rfl
theorem wr_rn_fr (A : AB) (v : Nat → Bool) : (A.w_rn v).fr = A.fr := rfl
theorem wr_rn_tk (A : AB) (v : Nat → Bool) : (A.w_rn v).tk = A.tk := rfl
theorem wr_rn_rm (A : AB) (v : Nat → Bool) : (A.w_rn v).rm = A.rm := rfl
theorem wr_rn_fw (A : AB) (v : Nat → Bool) : (A.w_rn v).fw = A.fw := rfl
theorem wr_rn_T (A : AB) (v : Nat → Bool) : (A.w_rn v).T = A.T := rfl
theorem wr_rn_O (A : AB) (v : Nat → Bool) : (A.w_rn v).O = A.O := rfl
theorem wr_rn_S (A : AB) (v : Nat → Bool) : (A.w_rn v).S = A.S := rfl
theorem wr_rn_F (A : AB) (v : Nat → Bool) : (A.w_rn v).F = A.F := rfl
theorem wr_rn_rn (A : AB) (v : Nat → Bool) : (A.w_rn v).rn = v := rfl
theorem AB_ext {A B : AB} (h_tp : A.tp = B.tp) (h_tl : A.tl = B.tl) (h_tb : A.tb = B.tb) (h_ol : A.ol = B.ol) (h_dv : A.dv = B.dv) (h_ct : A.ct = B.ct) (h_us : A.us = B.us) (h_fr : A.fr = B.fr) (h_tk : A.tk = B.tk) (h_rm : A.rm = B.rm) (h_fw : A.fw = B.fw) (h_T : A.T = B.T) (h_O : A.O = B.O) (h_S : A.S = B.S) (h_F : A.F = B.F) (h_rn : A.rn = B.rn) : A = B := Prod.ext h_tp (Prod.ext h_tl (Prod.ext h_tb (Prod.ext h_ol (Prod.ext h_dv (Prod.ext h_ct (Prod.ext h_us (Prod.ext h_fr (Prod.ext h_tk (Prod.ext h_rm (Prod.ext h_fw (Prod.ext h_T (Prod.ext h_O (Prod.ext h_S (Prod.ext h_F h_rn))))))))))))))
