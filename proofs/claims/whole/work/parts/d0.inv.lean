/-! what the law keeps -/
def XI (A : AB) (t : Nat) : Prop := (TFA A.O) ∧ (∀ i, A.S i = true → FVK (A.F i)) ∧ (A.tk ≤ t)
theorem XI.o {A : AB} {t : Nat} (h9 : XI A t) : TFA A.O := h9.1
theorem XI.f {A : AB} {t : Nat} (h9 : XI A t) : ∀ i, A.S i = true → FVK (A.F i) := h9.2.1
theorem XI.k {A : AB} {t : Nat} (h9 : XI A t) : A.tk ≤ t := h9.2.2
theorem XI.le {A : AB} {t s : Nat} (h : XI A t) (hs : t ≤ s) : XI A s := ⟨h.o, h.f, Nat.le_trans h.k hs⟩
theorem XI.to {A B : AB} {t : Nat} (h : XI A t) (eO : B.O = A.O) (eS : B.S = A.S) (eF : B.F = A.F) (ek : B.tk = A.tk) : XI B t := ⟨by rw [eO]; exact h.o, by rw [eS, eF]; exact h.f, by rw [ek]; exact h.k⟩
theorem XI.ckp {A : AB} {t : Nat} (h : XI A t) (hT : TFA A.T) : XI A.ckp (t + 1) := by
  unfold AB.ckp
  obtain ⟨u, eu⟩ : ∃ u, u = inT A.T := ⟨_, rfl⟩
  rw [← eu]
  have c := ckp_i A u 0
  have ck : (A.ckpW u).tk = A.tk + 1 := by
    unfold AB.ckpW
    simp only [wr_tp_tp, wr_tp_tl, wr_tp_tb, wr_tp_ol, wr_tp_dv, wr_tp_ct, wr_tp_us, wr_tp_fr, wr_tp_tk, wr_tp_rm, wr_tp_fw, wr_tp_T, wr_tp_O, wr_tp_S, wr_tp_F, wr_tp_rn, wr_tl_tp, wr_tl_tl, wr_tl_tb, wr_tl_ol, wr_tl_dv, wr_tl_ct, wr_tl_us, wr_tl_fr, wr_tl_tk, wr_tl_rm, wr_tl_fw, wr_tl_T, wr_tl_O, wr_tl_S, wr_tl_F, wr_tl_rn, wr_tb_tp, wr_tb_tl, wr_tb_tb, wr_tb_ol, wr_tb_dv, wr_tb_ct, wr_tb_us, wr_tb_fr, wr_tb_tk, wr_tb_rm, wr_tb_fw, wr_tb_T, wr_tb_O, wr_tb_S, wr_tb_F, wr_tb_rn, wr_ol_tp, wr_ol_tl, wr_ol_tb, wr_ol_ol, wr_ol_dv, wr_ol_ct, wr_ol_us, wr_ol_fr, wr_ol_tk, wr_ol_rm, wr_ol_fw, wr_ol_T, wr_ol_O, wr_ol_S, wr_ol_F, wr_ol_rn, wr_dv_tp, wr_dv_tl, wr_dv_tb, wr_dv_ol, wr_dv_dv, wr_dv_ct, wr_dv_us, wr_dv_fr, wr_dv_tk, wr_dv_rm, wr_dv_fw, wr_dv_T, wr_dv_O, wr_dv_S, wr_dv_F, wr_dv_rn, wr_ct_tp, wr_ct_tl, wr_ct_tb, wr_ct_ol, wr_ct_dv, wr_ct_ct, wr_ct_us, wr_ct_fr, wr_ct_tk, wr_ct_rm, wr_ct_fw, wr_ct_T, wr_ct_O, wr_ct_S, wr_ct_F, wr_ct_rn, wr_us_tp, wr_us_tl, wr_us_tb, wr_us_ol, wr_us_dv, wr_us_ct, wr_us_us, wr_us_fr, wr_us_tk, wr_us_rm, wr_us_fw, wr_us_T, wr_us_O, wr_us_S, wr_us_F, wr_us_rn, wr_fr_tp, wr_fr_tl, wr_fr_tb, wr_fr_ol, wr_fr_dv, wr_fr_ct, wr_fr_us, wr_fr_fr, wr_fr_tk, wr_fr_rm, wr_fr_fw, wr_fr_T, wr_fr_O, wr_fr_S, wr_fr_F, wr_fr_rn, wr_tk_tp, wr_tk_tl, wr_tk_tb, wr_tk_ol, wr_tk_dv, wr_tk_ct, wr_tk_us, wr_tk_fr, wr_tk_tk, wr_tk_rm, wr_tk_fw, wr_tk_T, wr_tk_O, wr_tk_S, wr_tk_F, wr_tk_rn, wr_rm_tp, wr_rm_tl, wr_rm_tb, wr_rm_ol, wr_rm_dv, wr_rm_ct, wr_rm_us, wr_rm_fr, wr_rm_tk, wr_rm_rm, wr_rm_fw, wr_rm_T, wr_rm_O, wr_rm_S, wr_rm_F, wr_rm_rn, wr_fw_tp, wr_fw_tl, wr_fw_tb, wr_fw_ol, wr_fw_dv, wr_fw_ct, wr_fw_us, wr_fw_fr, wr_fw_tk, wr_fw_rm, wr_fw_fw, wr_fw_T, wr_fw_O, wr_fw_S, wr_fw_F, wr_fw_rn, wr_T_tp, wr_T_tl, wr_T_tb, wr_T_ol, wr_T_dv, wr_T_ct, wr_T_us, wr_T_fr, wr_T_tk, wr_T_rm, wr_T_fw, wr_T_T, wr_T_O, wr_T_S, wr_T_F, wr_T_rn, wr_O_tp, wr_O_tl, wr_O_tb, wr_O_ol, wr_O_dv, wr_O_ct, wr_O_us, wr_O_fr, wr_O_tk, wr_O_rm, wr_O_fw, wr_O_T, wr_O_O, wr_O_S, wr_O_F, wr_O_rn, wr_S_tp, wr_S_tl, wr_S_tb, wr_S_ol, wr_S_dv, wr_S_ct, wr_S_us, wr_S_fr, wr_S_tk, wr_S_rm, wr_S_fw, wr_S_T, wr_S_O, wr_S_S, wr_S_F, wr_S_rn, wr_F_tp, wr_F_tl, wr_F_tb, wr_F_ol, wr_F_dv, wr_F_ct, wr_F_us, wr_F_fr, wr_F_tk, wr_F_rm, wr_F_fw, wr_F_T, wr_F_O, wr_F_S, wr_F_F, wr_F_rn, wr_rn_tp, wr_rn_tl, wr_rn_tb, wr_rn_ol, wr_rn_dv, wr_rn_ct, wr_rn_us, wr_rn_fr, wr_rn_tk, wr_rn_rm, wr_rn_fw, wr_rn_T, wr_rn_O, wr_rn_S, wr_rn_F, wr_rn_rn]
  obtain ⟨C, eC⟩ : ∃ C, C = A.ckpW u := ⟨_, rfl⟩
  rw [← eC] at c ck ⊢
  obtain ⟨c1, c2, c3, c4, c5⟩ := c
  have := h.k
  exact ⟨by rw [c2]; exact hT, fun i q => by rw [c3] at q; exact Bool.noConfusion q, by rw [ck]; omega⟩
theorem xi_rsv {A : AB} {t n : Nat} (h : XI A t) (hT : TFA A.T) : XI (rsvB n A) (t + 1) := by
  unfold rsvB
  split
  · exact (h.to (B := A.w_fr (A.fr + n)) rfl rfl rfl rfl).le (by omega)
  · split
    · exact (h.to (B := A.off) rfl rfl rfl rfl).le (by omega)
    · have := h.ckp hT
      obtain ⟨C, eC⟩ : ∃ C, C = A.ckp := ⟨_, rfl⟩
      rw [← eC] at this ⊢
      split
      · exact this.to (B := C.w_fr n) rfl rfl rfl rfl
      · exact this
theorem xi_rsvA {A : AB} {t n : Nat} {k : AB → ANS} (h : XI A t) (hT : TFA A.T) (hk : ∀ B, XI B (t + 1) → B.T = A.T → XI (k B).2.2 (t + 2)) : XI (rsvA n A k).2.2 (t + 2) := by
  unfold rsvA
  split
  · exact hk _ (xi_rsv h hT) (rsvB_T n A)
  · exact (xi_rsv h hT).le (by omega)
theorem xi_pwr {A : AB} {t : Nat} {r : ANS} (h : XI A t) (hr : A.dv = 2 → XI r.2.2 (t + 2)) : XI (pwrA A r).2.2 (t + 2) := by
  unfold pwrA
  split
  · rename_i c
    exact hr c
  · exact h.le (by omega)
theorem xi_make {A : AB} {t k d n : Nat} (h : XI A t) (hT : A.dv = 2 → TFA A.T) : XI (makeA k d n A).2.2 (t + 2) := xi_pwr h (fun c => by
  have h0 := h.to (B := A.w_tl 0) rfl rfl rfl rfl
  split
  · exact h0.le (by omega)
  · split
    · exact h0.le (by omega)
    · exact xi_rsvA h0 (hT c) (fun B hB _ => (hB.to rfl rfl rfl rfl).le (by omega)))
theorem xi_link {A : AB} {t f d n : Nat} (h : XI A t) (hT : A.dv = 2 → TFA A.T) : XI (linkA f d n A).2.2 (t + 2) := xi_pwr h (fun c => by
  have h0 := h.to (B := A.w_tl 0) rfl rfl rfl rfl
  split
  · exact h0.le (by omega)
  · split
    · exact h0.le (by omega)
    · exact xi_rsvA h0 (hT c) (fun B hB _ => (hB.to rfl rfl rfl rfl).le (by omega)))
theorem xi_unlink {A : AB} {t d n : Nat} (h : XI A t) (hT : A.dv = 2 → TFA A.T) : XI (unlinkA d n A).2.2 (t + 2) := xi_pwr h (fun c => by
  have h0 := h.to (B := A.w_tl 0) rfl rfl rfl rfl
  split
  · exact h0.le (by omega)
  · split
    · exact h0.le (by omega)
    · exact xi_rsvA h0 (hT c) (fun B hB _ => (hB.to rfl rfl rfl rfl).le (by omega)))
theorem xi_rmdir {A : AB} {t d n : Nat} (h : XI A t) (hT : A.dv = 2 → TFA A.T) : XI (rmdirA d n A).2.2 (t + 2) := xi_pwr h (fun c => by
  have h0 := h.to (B := A.w_tl 0) rfl rfl rfl rfl
  split
  · exact h0.le (by omega)
  · split
    · exact h0.le (by omega)
    · exact xi_rsvA h0 (hT c) (fun B hB _ => (hB.to rfl rfl rfl rfl).le (by omega)))
theorem xi_rename {A : AB} {t d n o m : Nat} (h : XI A t) (hT : A.dv = 2 → TFA A.T) : XI (renA d n o m A).2.2 (t + 2) := xi_pwr h (fun c => by
  have h0 := h.to (B := A.w_tl 0) rfl rfl rfl rfl
  split
  · exact h0.le (by omega)
  · unfold renA2
    split
    · exact xi_rsvA h0 (hT c) (fun B hB _ => hB.le (by omega))
    · split
      · exact h0.le (by omega)
      · exact xi_rsvA h0 (hT c) (fun B hB _ => (hB.to rfl rfl rfl rfl).le (by omega)))
theorem xi_find {A : AB} {t d n : Nat} (h : XI A t) : XI (findA d n A).2.2 (t + 2) := xi_pwr h (fun c => by
  have h0 := h.to (B := A.w_tl 0) rfl rfl rfl rfl
  split <;> exact h0.le (by omega))
theorem xi_write {A : AB} {t f a n : Nat} (h : XI A t) (hT : A.dv = 2 → TFA A.T) : XI (writeA f a n A).2.2 (t + 2) := xi_pwr h (fun c => by
  have h0 := h.to (B := A.w_tl 0) rfl rfl rfl rfl
  split
  · exact h0.le (by omega)
  · exact xi_rsvA h0 (hT c) (fun B hB _ => (hB.to rfl rfl rfl rfl).le (by omega)))
theorem xi_read {A : AB} {t f a n : Nat} (h : XI A t) : XI (readA f a n A).2.2 (t + 2) := xi_pwr h (fun c => by
  split
  · exact h.le (by omega)
  · exact (h.to rfl rfl rfl rfl).le (by omega))
theorem xi_trunc {A : AB} {t f s : Nat} (h : XI A t) (hT : A.dv = 2 → TFA A.T) : XI (truncA f s A).2.2 (t + 2) := xi_pwr h (fun c => by
  split
  · exact h.le (by omega)
  · exact xi_rsvA h (hT c) (fun B hB _ => (hB.to rfl rfl rfl rfl).le (by omega)))
theorem xi_fsync {A : AB} {t f : Nat} (h : XI A t) (hT : A.dv = 2 → TFA A.T) : XI (fsyncA f A).2.2 (t + 2) := xi_pwr h (fun c => by
  by_cases c1 : A.T.kd f ≠ 1
  · rw [if_pos c1]; exact h.le (by omega)
  · rw [if_neg c1]
    refine xi_rsvA h (hT c) (fun B hB bT => ?_)
    have hBT : TFA B.T := by rw [bT]; exact hT c
    unfold cutA
    split
    · exact (hB.to (B := B.off) rfl rfl rfl rfl).le (by omega)
    · split
      · exact hB.ckp hBT
      · refine ⟨hB.o, fun i q => ?_, Nat.le_trans hB.k (by omega)⟩
        show FVK (va_up B.F f (B.T.fil f) i)
        have q : va_up B.S f true i = true := q
        by_cases e : i = f
        · rw [e, va_up_self]
          exact hBT.fv f (by rw [bT]; exact Classical.byContradiction c1)
        · rw [va_up_ne _ _ e] at q ⊢
          exact hB.f i q)
theorem xi_sync {A : AB} {t : Nat} (h : XI A t) (hT : A.dv = 2 → TFA A.T) : XI (syncA A).2.2 (t + 2) := xi_pwr h (fun c => by
  unfold cutA
  split
  · exact (h.to (B := A.off) rfl rfl rfl rfl).le (by omega)
  · exact (h.ckp (hT c)).le (by omega))
theorem xi_name {A : AB} {t d k : Nat} (h : XI A t) : XI (nameA d k A).2.2 (t + 2) := xi_pwr h (fun c => by
  split
  · exact h.le (by omega)
  · split
    · exact (h.to rfl rfl rfl rfl).le (by omega)
    · exact (h.to rfl rfl rfl rfl).le (by omega))
theorem xi_look {A : AB} {t d k : Nat} (h : XI A t) : XI (lookA d k A).2.2 (t + 2) := xi_pwr h (fun c => by
  split <;> exact h.le (by omega))
theorem xi_count {A : AB} {t k : Nat} (h : XI A t) : XI (countA k A).2.2 (t + 2) := xi_pwr h (fun c => by
  split <;> exact h.le (by omega))
theorem xi_power {A : AB} {t : Nat} (h : XI A t) : XI (powerA A).2.2 (t + 2) := xi_pwr h (fun c => (h.to rfl rfl rfl rfl).le (by omega))
theorem xi_cut {A : AB} {t b : Nat} (h : XI A t) : XI (cutcA b A).2.2 (t + 2) := xi_pwr h (fun c => (h.to rfl rfl rfl rfl).le (by omega))
theorem xi_clean {A : AB} {t : Nat} (h : XI A t) : XI (cleanA A).2.2 (t + 2) := xi_pwr h (fun c => h.le (by omega))
theorem xi_faults {A : AB} {t : Nat} (h : XI A t) : XI (faultsA A).2.2 (t + 2) := xi_pwr h (fun c => h.le (by omega))
theorem xi_byte {A : AB} {t i : Nat} (h : XI A t) : XI (byteA i A).2.2 (t + 2) := by
  unfold byteA
  split <;> exact h.le (by omega)
theorem xi_tape {A : AB} {t i : Nat} (h : XI A t) : XI (tapeA i A).2.2 (t + 2) := by
  unfold tapeA
  split
  · exact (h.to rfl rfl rfl rfl).le (by omega)
  · exact h.le (by omega)
theorem xi_feed {A : AB} {t : Nat} {w : Nat → Nat} (h : XI A t) : XI (feedA w A).2.2 (t + 2) := by
  unfold feedA
  split
  · exact h.le (by omega)
  · exact (h.to rfl rfl rfl rfl).le (by omega)
theorem xi_mount {A : AB} {t : Nat} (h : XI A t) (hR : A.dv = 1 → TFA A.R) : XI (mountA A).2.2 (t + 2) := by
  unfold mountA
  by_cases c : A.dv = 1
  · rw [if_pos c]
    have h0 : XI (((A.w_T A.R).w_dv 2).w_fw (fwdN A)) t := h.to rfl rfl rfl rfl
    exact (h0.ckp (hR c)).le (by omega)
  · rw [if_neg c]; exact h.le (by omega)
theorem xi_format {A : AB} {t s r : Nat} (h : XI A t) : XI (formatA s r A).2.2 (t + 2) := by
  unfold formatA
  split
  · have h0 : XI ((((((A.w_dv 2).w_ct 0).w_fw 0).w_rm (16 * (s - r))).w_tk 0).w_T rootT) t := ⟨h.o, h.f, Nat.zero_le _⟩
    exact (h0.ckp root_tfa).le (by omega)
  · exact h.le (by omega)
/-- the calls that leave the tree alone -/
theorem ai_same {A B : AB} (h : AI A 0) (e1 : B.T = A.T) (e2 : B.O = A.O) (e3 : B.S = A.S) (e4 : B.F = A.F) (e5 : B.rn = A.rn) (e6 : B.rm = A.rm) (e7 : B.us = A.us) (e8 : B.fr = A.fr) : AI B 0 := by
  have eR : B.R = A.R := by
    unfold AB.R
    rw [e2, e3, e4]
  refine ⟨by rw [e1]; exact h.tw, by rw [e2]; exact h.ow, by rw [e2, e3]; exact h.sk, by rw [e1, e2, e5]; exact h.fk, by rw [e6]; exact h.rb, by rw [e6, e7, e8]; exact h.ft, ?_⟩
  rw [e1, e2, eR, e6, e7, e8]
  exact h.mx
theorem ai_find {A : AB} {d n : Nat} (h : AI A 0) : AI (findA d n A).2.2 0 := ai_pwr h (fun _ => by
  split <;> exact h.tl 0)
theorem ai_read {A : AB} {f a n : Nat} (h : AI A 0) : AI (readA f a n A).2.2 0 := ai_pwr h (fun _ => by
  split
  · exact h
  · exact ai_same h rfl rfl rfl rfl rfl rfl rfl rfl)
theorem ai_name {A : AB} {d k : Nat} (h : AI A 0) : AI (nameA d k A).2.2 0 := ai_pwr h (fun _ => by
  split
  · exact h
  · split
    · exact ai_same h rfl rfl rfl rfl rfl rfl rfl rfl
    · exact ai_same h rfl rfl rfl rfl rfl rfl rfl rfl)
theorem ai_look {A : AB} {d k : Nat} (h : AI A 0) : AI (lookA d k A).2.2 0 := ai_pwr h (fun _ => by
  split <;> exact h)
theorem ai_count {A : AB} {k : Nat} (h : AI A 0) : AI (countA k A).2.2 0 := ai_pwr h (fun _ => by
  split <;> exact h)
theorem ai_power {A : AB} (h : AI A 0) : AI (powerA A).2.2 0 := ai_pwr h (fun _ => h.off)
theorem ai_cutc {A : AB} {b : Nat} (h : AI A 0) : AI (cutcA b A).2.2 0 := ai_pwr h (fun _ => ai_same h rfl rfl rfl rfl rfl rfl rfl rfl)
theorem ai_clean {A : AB} (h : AI A 0) : AI (cleanA A).2.2 0 := ai_pwr h (fun _ => h)
theorem ai_faults {A : AB} (h : AI A 0) : AI (faultsA A).2.2 0 := ai_pwr h (fun _ => h)
theorem ai_byte {A : AB} {i : Nat} (h : AI A 0) : AI (byteA i A).2.2 0 := by
  unfold byteA
  split <;> exact h
theorem ai_tape {A : AB} {k : Nat} (h : AI A 0) : AI (tapeA k A).2.2 0 := by
  unfold tapeA
  split
  · exact h.tl k
  · exact h
theorem ai_feed {A : AB} {w : Nat → Nat} (h : AI A 0) : AI (feedA w A).2.2 0 := by
  unfold feedA
  split
  · exact h
  · exact ai_same h rfl rfl rfl rfl rfl rfl rfl rfl
