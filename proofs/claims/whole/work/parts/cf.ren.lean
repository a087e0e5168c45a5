/-! the model: rename whole -/
theorem rn_one {w : NSt} {A : AB} (h : MI w A) {x : Nat} (x1 : 1 ≤ x) (x2 : x ≤ 250) : MI (zA w 7 x 1) ((A.w_T A.T).w_rn (va_up A.rn x true)) := by
  have za : ∀ a, a ≠ 7 → (zA w 7 x 1).2 a = w.2 a := fun a ha => by rw [zA2, if_neg ha]
  have e7 : (zA w 7 x 1).2 7 x = 1 := by rw [zA2, if_pos rfl, va_up_self]
  refine h.one (x := x) (h.po.up rfl (za 8 (by decide)) (za 10 (by decide)) (zA_wd h.po.wd _ _ (by decide))) (fun _ _ _ => rfl) (fun a q => za a (by omega)) (fun a q j hj => zA_ne _ _ _ _ _ _ hj) (fun l id p _ _ _ _ => by rw [za 8 (by decide)]) x2 rfl (fun _ _ => rfl) (fun _ _ => rfl) (fun _ _ => rfl) (fun id c => va_up_ne _ _ c) ?_ (fun q => ?_) ?_ ?_
  · rw [za 2 (by decide)]; exact (h.kd x x1 x2).1
  · rw [za 4 (by decide)]; exact (h.lk x x1 x2).1 q
  · rw [e7]; exact ⟨by decide, fun _ => by rw [va_up_self, if_pos rfl]⟩
  · exact ⟨fun q => ((h.f0 x x1 x2).1 q).keep (za 3 (by decide)) (za 5 (by decide)) (za 8 (by decide)) (za 9 (by decide)), fun q p hp => by rw [za 8 (by decide)]; exact (h.f0 x x1 x2).2 q p hp⟩
theorem ren166_n {FU : Nat} (hF : 140000 < FU) {z : NSt} {B : AB} (h : MI z B) {a d n1 id o n m tl' n2 : Nat} (ha : a < z.1 12) (a11 : z.2 11 a = d) (an : nmK z 13 14 a = n1) (a12 : z.2 12 a = id) (ho : o < 2 ^ 31) (hok : nmOk B.tp tl' n m = true) (htl : tl' ≤ 2060) (en : n2 = nmN B.tp n m) (h0 : B.T.ent o n2 = 0) : Ev (Mod_rename_b166 FU (nI n) (nI o) (nI m) (nI a) (-1 : Int32) (nI id) (up z)) fun r => ∃ y, r = up y ∧ MI y ((B.w_T (B.T.ren d n1 o n2 id 0)).w_rn (va_up B.rn id true)) ∧ y.1 0 = z.1 0 := by
  obtain ⟨-, e2, e3⟩ := h.en.en a ha
  rw [a12] at e2 e3
  have hx := rn_one h (show 1 ≤ id by omega) e3
  unfold Mod_rename_b166
  rw [show nz (1 : Int32) = nI 1 by decide, wrA_z z 7 (by omega) (by decide), Option.bind_some, if_neg (show ¬ (0 : Int32) ≤ (-1 : Int32) by decide)]
  obtain ⟨x, ex⟩ : ∃ x, x = zA z 7 id 1 := ⟨_, rfl⟩
  rw [← ex] at hx ⊢
  have xa : ∀ k, k ≠ 7 → x.2 k = z.2 k := fun k hk => by rw [ex, zA2, if_neg hk]
  have x1 : x.1 = z.1 := by rw [ex]; rfl
  have xn : nmK x 13 14 a = n1 := by
    rw [← an]
    unfold nmK
    rw [xa 13 (by decide), xa 14 (by decide)]
  rw [en] at h0 ⊢
  refine (nameE_z hF hx (tl' := tl') (k := a) (o := o) (fr := n) (n := m) (by rw [x1]; exact ha) ho hok htl h0).bd ?_
  rintro _ ⟨y, rfl, hy, y0⟩
  rw [xa 11 (by decide), a11, xn, xa 12 (by decide), a12] at hy
  have e9 : ((B.w_T B.T).w_rn (va_up B.rn id true)).w_T ((((B.w_T B.T).w_rn (va_up B.rn id true)).T.put d n1 0).put o (nmN ((B.w_T B.T).w_rn (va_up B.rn id true)).tp n m) id) = (B.w_T ((B.T.put d n1 0).put o (nmN B.tp n m) id)).w_rn (va_up B.rn id true) := by
    refine AB_ext ?_ ?_ ?_ ?_ ?_ ?_ ?_ ?_ ?_ ?_ ?_ ?_ ?_ ?_ ?_ ?_ <;> simp only [wr_tp_tp, wr_tp_tl, wr_tp_tb, wr_tp_ol, wr_tp_dv, wr_tp_ct, wr_tp_us, wr_tp_fr, wr_tp_tk, wr_tp_rm, wr_tp_fw, wr_tp_T, wr_tp_O, wr_tp_S, wr_tp_F, wr_tp_rn, wr_tl_tp, wr_tl_tl, wr_tl_tb, wr_tl_ol, wr_tl_dv, wr_tl_ct, wr_tl_us, wr_tl_fr, wr_tl_tk, wr_tl_rm, wr_tl_fw, wr_tl_T, wr_tl_O, wr_tl_S, wr_tl_F, wr_tl_rn, wr_tb_tp, wr_tb_tl, wr_tb_tb, wr_tb_ol, wr_tb_dv, wr_tb_ct, wr_tb_us, wr_tb_fr, wr_tb_tk, wr_tb_rm, wr_tb_fw, wr_tb_T, wr_tb_O, wr_tb_S, wr_tb_F, wr_tb_rn, wr_ol_tp, wr_ol_tl, wr_ol_tb, wr_ol_ol, wr_ol_dv, wr_ol_ct, wr_ol_us, wr_ol_fr, wr_ol_tk, wr_ol_rm, wr_ol_fw, wr_ol_T, wr_ol_O, wr_ol_S, wr_ol_F, wr_ol_rn, wr_dv_tp, wr_dv_tl, wr_dv_tb, wr_dv_ol, wr_dv_dv, wr_dv_ct, wr_dv_us, wr_dv_fr, wr_dv_tk, wr_dv_rm, wr_dv_fw, wr_dv_T, wr_dv_O, wr_dv_S, wr_dv_F, wr_dv_rn, wr_ct_tp, wr_ct_tl, wr_ct_tb, wr_ct_ol, wr_ct_dv, wr_ct_ct, wr_ct_us, wr_ct_fr, wr_ct_tk, wr_ct_rm, wr_ct_fw, wr_ct_T, wr_ct_O, wr_ct_S, wr_ct_F, wr_ct_rn, wr_us_tp, wr_us_tl, wr_us_tb, wr_us_ol, wr_us_dv, wr_us_ct, wr_us_us, wr_us_fr, wr_us_tk, wr_us_rm, wr_us_fw, wr_us_T, wr_us_O, wr_us_S, wr_us_F, wr_us_rn, wr_fr_tp, wr_fr_tl, wr_fr_tb, wr_fr_ol, wr_fr_dv, wr_fr_ct, wr_fr_us, wr_fr_fr, wr_fr_tk, wr_fr_rm, wr_fr_fw, wr_fr_T, wr_fr_O, wr_fr_S, wr_fr_F, wr_fr_rn, wr_tk_tp, wr_tk_tl, wr_tk_tb, wr_tk_ol, wr_tk_dv, wr_tk_ct, wr_tk_us, wr_tk_fr, wr_tk_tk, wr_tk_rm, wr_tk_fw, wr_tk_T, wr_tk_O, wr_tk_S, wr_tk_F, wr_tk_rn, wr_rm_tp, wr_rm_tl, wr_rm_tb, wr_rm_ol, wr_rm_dv, wr_rm_ct, wr_rm_us, wr_rm_fr, wr_rm_tk, wr_rm_rm, wr_rm_fw, wr_rm_T, wr_rm_O, wr_rm_S, wr_rm_F, wr_rm_rn, wr_fw_tp, wr_fw_tl, wr_fw_tb, wr_fw_ol, wr_fw_dv, wr_fw_ct, wr_fw_us, wr_fw_fr, wr_fw_tk, wr_fw_rm, wr_fw_fw, wr_fw_T, wr_fw_O, wr_fw_S, wr_fw_F, wr_fw_rn, wr_T_tp, wr_T_tl, wr_T_tb, wr_T_ol, wr_T_dv, wr_T_ct, wr_T_us, wr_T_fr, wr_T_tk, wr_T_rm, wr_T_fw, wr_T_T, wr_T_O, wr_T_S, wr_T_F, wr_T_rn, wr_O_tp, wr_O_tl, wr_O_tb, wr_O_ol, wr_O_dv, wr_O_ct, wr_O_us, wr_O_fr, wr_O_tk, wr_O_rm, wr_O_fw, wr_O_T, wr_O_O, wr_O_S, wr_O_F, wr_O_rn, wr_S_tp, wr_S_tl, wr_S_tb, wr_S_ol, wr_S_dv, wr_S_ct, wr_S_us, wr_S_fr, wr_S_tk, wr_S_rm, wr_S_fw, wr_S_T, wr_S_O, wr_S_S, wr_S_F, wr_S_rn, wr_F_tp, wr_F_tl, wr_F_tb, wr_F_ol, wr_F_dv, wr_F_ct, wr_F_us, wr_F_fr, wr_F_tk, wr_F_rm, wr_F_fw, wr_F_T, wr_F_O, wr_F_S, wr_F_F, wr_F_rn, wr_rn_tp, wr_rn_tl, wr_rn_tb, wr_rn_ol, wr_rn_dv, wr_rn_ct, wr_rn_us, wr_rn_fr, wr_rn_tk, wr_rn_rm, wr_rn_fw, wr_rn_T, wr_rn_O, wr_rn_S, wr_rn_F, wr_rn_rn]
  rw [e9] at hy
  refine Ev.ret ⟨y, rfl, ?_, by rw [y0, x1]⟩
  unfold TRE.ren
  rw [if_pos rfl]
  exact hy.cgT moved_ent moved_kd moved_lk moved_fil (fun _ _ => rfl)
theorem put2_ent {T : TRE} {d n o m v : Nat} (h : ¬ (d = o ∧ n = m)) : (((T.put d n 0).put o m 0).put o m v).ent = ((T.put o m v).put d n 0).ent := by
  funext e k
  show entP (entP (entP T.ent d n 0) o m 0) o m v e k = entP (entP T.ent o m v) d n 0 e k
  rw [entP_e, entP_e, entP_e, entP_e, entP_e]
  by_cases c : e = o ∧ k = m
  · rw [if_pos c, if_neg (fun q => h ⟨q.1.symm.trans c.1, q.2.symm.trans c.2⟩), if_pos c]
  · rw [if_neg c, if_neg c, if_neg c]
theorem loose_ent' {T : TRE} {f : Nat} : (T.loose f).ent = T.ent := by
  unfold TRE.loose
  split <;> rfl
theorem loose_fil' {T : TRE} {f : Nat} : (T.loose f).fil = T.fil := by
  unfold TRE.loose
  split <;> rfl
theorem loose_cg {T U : TRE} {f : Nat} (h1 : U.kd = T.kd) (h2 : U.lk = T.lk) : (U.loose f).kd = (T.loose f).kd ∧ (U.loose f).lk = (T.loose f).lk := by
  unfold TRE.loose
  rw [h2]
  by_cases c : 1 < T.lk f
  · rw [if_pos c, if_pos c]
    exact ⟨h1, rfl⟩
  · rw [if_neg c, if_neg c]
    refine ⟨?_, h2⟩
    show va_up U.kd f 0 = va_up T.kd f 0
    rw [h1]
theorem ren166_l {FU : Nat} (hF : 140000 < FU) {z : NSt} {B : AB} (h : MI z B) {a d n1 id b o n2 lost : Nat} (y2 y3 y4 : Int32) (ha : a < z.1 12) (a11 : z.2 11 a = d) (an : nmK z 13 14 a = n1) (a12 : z.2 12 a = id) (hb : b < z.1 12) (b11 : z.2 11 b = o) (bn : nmK z 13 14 b = n2) (b12 : z.2 12 b = lost) (hab : a ≠ b) (hne : id ≠ lost) (hk : B.T.kd lost = 1 ∨ B.T.kd lost = 2) (hl : B.T.kd lost = 1 → 1 ≤ B.T.lk lost ∧ B.T.lk lost < 2 ^ 31) : Ev (Mod_rename_b166 FU y2 y3 y4 (nI a) (nI b) (nI id) (up z)) fun r => ∃ y, r = up y ∧ MI y ((B.w_T (B.T.ren d n1 o n2 id lost)).w_rn (va_up (va_up B.rn lost true) id true)) ∧ y.1 0 = z.1 0 := by
  have hE := h.en.le
  obtain ⟨-, e2, e3⟩ := h.en.en a ha
  rw [a12] at e2 e3
  obtain ⟨-, l2, l3⟩ := h.en.en b hb
  rw [b12] at l2 l3
  have hdis : ¬ (d = o ∧ n1 = n2) := fun q => hab (h.en.dis a b ha hb (by rw [a11, b11]; exact q.1) (by rw [an, bn]; exact q.2))
  have hx := rn_one h (show 1 ≤ id by omega) e3
  unfold Mod_rename_b166
  rw [show nz (1 : Int32) = nI 1 by decide, wrA_z z 7 (by omega) (by decide), Option.bind_some, if_pos (show (0 : Int32) ≤ nI b from nI_le (Nat.zero_le _) (by omega)), rdA_z _ 12 (by omega) (by decide), Option.bind_some]
  obtain ⟨x, ex⟩ : ∃ x, x = zA z 7 id 1 := ⟨_, rfl⟩
  rw [← ex] at hx ⊢
  have xa : ∀ k, k ≠ 7 → x.2 k = z.2 k := fun k hk => by rw [ex, zA2, if_neg hk]
  have x1 : x.1 = z.1 := by rw [ex]; rfl
  have xn : ∀ k, nmK x 13 14 k = nmK z 13 14 k := fun k => by
    unfold nmK
    rw [xa 13 (by decide), xa 14 (by decide)]
  rw [xa 12 (by decide), b12, wrA_z x 12 (by omega) (by decide), Option.bind_some]
  have hu := setE_z hx (k := b) (id := id) (by rw [x1]; exact hb) e2 e3
  rw [xa 11 (by decide), b11, xn, bn] at hu
  have e9 : ((B.w_T B.T).w_rn (va_up B.rn id true)).w_T ((((B.w_T B.T).w_rn (va_up B.rn id true)).T.put o n2 id)) = (B.w_T (B.T.put o n2 id)).w_rn (va_up B.rn id true) := by
    refine AB_ext ?_ ?_ ?_ ?_ ?_ ?_ ?_ ?_ ?_ ?_ ?_ ?_ ?_ ?_ ?_ ?_ <;> simp only [wr_tp_tp, wr_tp_tl, wr_tp_tb, wr_tp_ol, wr_tp_dv, wr_tp_ct, wr_tp_us, wr_tp_fr, wr_tp_tk, wr_tp_rm, wr_tp_fw, wr_tp_T, wr_tp_O, wr_tp_S, wr_tp_F, wr_tp_rn, wr_tl_tp, wr_tl_tl, wr_tl_tb, wr_tl_ol, wr_tl_dv, wr_tl_ct, wr_tl_us, wr_tl_fr, wr_tl_tk, wr_tl_rm, wr_tl_fw, wr_tl_T, wr_tl_O, wr_tl_S, wr_tl_F, wr_tl_rn, wr_tb_tp, wr_tb_tl, wr_tb_tb, wr_tb_ol, wr_tb_dv, wr_tb_ct, wr_tb_us, wr_tb_fr, wr_tb_tk, wr_tb_rm, wr_tb_fw, wr_tb_T, wr_tb_O, wr_tb_S, wr_tb_F, wr_tb_rn, wr_ol_tp, wr_ol_tl, wr_ol_tb, wr_ol_ol, wr_ol_dv, wr_ol_ct, wr_ol_us, wr_ol_fr, wr_ol_tk, wr_ol_rm, wr_ol_fw, wr_ol_T, wr_ol_O, wr_ol_S, wr_ol_F, wr_ol_rn, wr_dv_tp, wr_dv_tl, wr_dv_tb, wr_dv_ol, wr_dv_dv, wr_dv_ct, wr_dv_us, wr_dv_fr, wr_dv_tk, wr_dv_rm, wr_dv_fw, wr_dv_T, wr_dv_O, wr_dv_S, wr_dv_F, wr_dv_rn, wr_ct_tp, wr_ct_tl, wr_ct_tb, wr_ct_ol, wr_ct_dv, wr_ct_ct, wr_ct_us, wr_ct_fr, wr_ct_tk, wr_ct_rm, wr_ct_fw, wr_ct_T, wr_ct_O, wr_ct_S, wr_ct_F, wr_ct_rn, wr_us_tp, wr_us_tl, wr_us_tb, wr_us_ol, wr_us_dv, wr_us_ct, wr_us_us, wr_us_fr, wr_us_tk, wr_us_rm, wr_us_fw, wr_us_T, wr_us_O, wr_us_S, wr_us_F, wr_us_rn, wr_fr_tp, wr_fr_tl, wr_fr_tb, wr_fr_ol, wr_fr_dv, wr_fr_ct, wr_fr_us, wr_fr_fr, wr_fr_tk, wr_fr_rm, wr_fr_fw, wr_fr_T, wr_fr_O, wr_fr_S, wr_fr_F, wr_fr_rn, wr_tk_tp, wr_tk_tl, wr_tk_tb, wr_tk_ol, wr_tk_dv, wr_tk_ct, wr_tk_us, wr_tk_fr, wr_tk_tk, wr_tk_rm, wr_tk_fw, wr_tk_T, wr_tk_O, wr_tk_S, wr_tk_F, wr_tk_rn, wr_rm_tp, wr_rm_tl, wr_rm_tb, wr_rm_ol, wr_rm_dv, wr_rm_ct, wr_rm_us, wr_rm_fr, wr_rm_tk, wr_rm_rm, wr_rm_fw, wr_rm_T, wr_rm_O, wr_rm_S, wr_rm_F, wr_rm_rn, wr_fw_tp, wr_fw_tl, wr_fw_tb, wr_fw_ol, wr_fw_dv, wr_fw_ct, wr_fw_us, wr_fw_fr, wr_fw_tk, wr_fw_rm, wr_fw_fw, wr_fw_T, wr_fw_O, wr_fw_S, wr_fw_F, wr_fw_rn, wr_T_tp, wr_T_tl, wr_T_tb, wr_T_ol, wr_T_dv, wr_T_ct, wr_T_us, wr_T_fr, wr_T_tk, wr_T_rm, wr_T_fw, wr_T_T, wr_T_O, wr_T_S, wr_T_F, wr_T_rn, wr_O_tp, wr_O_tl, wr_O_tb, wr_O_ol, wr_O_dv, wr_O_ct, wr_O_us, wr_O_fr, wr_O_tk, wr_O_rm, wr_O_fw, wr_O_T, wr_O_O, wr_O_S, wr_O_F, wr_O_rn, wr_S_tp, wr_S_tl, wr_S_tb, wr_S_ol, wr_S_dv, wr_S_ct, wr_S_us, wr_S_fr, wr_S_tk, wr_S_rm, wr_S_fw, wr_S_T, wr_S_O, wr_S_S, wr_S_F, wr_S_rn, wr_F_tp, wr_F_tl, wr_F_tb, wr_F_ol, wr_F_dv, wr_F_ct, wr_F_us, wr_F_fr, wr_F_tk, wr_F_rm, wr_F_fw, wr_F_T, wr_F_O, wr_F_S, wr_F_F, wr_F_rn, wr_rn_tp, wr_rn_tl, wr_rn_tb, wr_rn_ol, wr_rn_dv, wr_rn_ct, wr_rn_us, wr_rn_fr, wr_rn_tk, wr_rn_rm, wr_rn_fw, wr_rn_T, wr_rn_O, wr_rn_S, wr_rn_F, wr_rn_rn]
  rw [e9] at hu
  obtain ⟨u, eu⟩ : ∃ u, u = zA x 12 b id := ⟨_, rfl⟩
  rw [← eu] at hu ⊢
  have ua : ∀ k, k ≠ 12 → u.2 k = x.2 k := fun k hk => by rw [eu, zA2, if_neg hk]
  have u1 : u.1 = z.1 := by rw [eu, ← x1]; rfl
  have un : nmK u 13 14 a = n1 := by
    rw [← an, ← xn]
    unfold nmK
    rw [ua 13 (by decide), ua 14 (by decide)]
  refine (removeEntry_z hF hu (k := a) (by rw [u1]; exact ha)).bd ?_
  rintro _ ⟨v, rfl, hv, v0, -⟩
  rw [ua 11 (by decide), xa 11 (by decide), a11, un] at hv
  have e8 : ((B.w_T (B.T.put o n2 id)).w_rn (va_up B.rn id true)).w_T ((((B.w_T (B.T.put o n2 id)).w_rn (va_up B.rn id true)).T.put d n1 0)) = (B.w_T ((B.T.put o n2 id).put d n1 0)).w_rn (va_up B.rn id true) := by
    refine AB_ext ?_ ?_ ?_ ?_ ?_ ?_ ?_ ?_ ?_ ?_ ?_ ?_ ?_ ?_ ?_ ?_ <;> simp only [wr_tp_tp, wr_tp_tl, wr_tp_tb, wr_tp_ol, wr_tp_dv, wr_tp_ct, wr_tp_us, wr_tp_fr, wr_tp_tk, wr_tp_rm, wr_tp_fw, wr_tp_T, wr_tp_O, wr_tp_S, wr_tp_F, wr_tp_rn, wr_tl_tp, wr_tl_tl, wr_tl_tb, wr_tl_ol, wr_tl_dv, wr_tl_ct, wr_tl_us, wr_tl_fr, wr_tl_tk, wr_tl_rm, wr_tl_fw, wr_tl_T, wr_tl_O, wr_tl_S, wr_tl_F, wr_tl_rn, wr_tb_tp, wr_tb_tl, wr_tb_tb, wr_tb_ol, wr_tb_dv, wr_tb_ct, wr_tb_us, wr_tb_fr, wr_tb_tk, wr_tb_rm, wr_tb_fw, wr_tb_T, wr_tb_O, wr_tb_S, wr_tb_F, wr_tb_rn, wr_ol_tp, wr_ol_tl, wr_ol_tb, wr_ol_ol, wr_ol_dv, wr_ol_ct, wr_ol_us, wr_ol_fr, wr_ol_tk, wr_ol_rm, wr_ol_fw, wr_ol_T, wr_ol_O, wr_ol_S, wr_ol_F, wr_ol_rn, wr_dv_tp, wr_dv_tl, wr_dv_tb, wr_dv_ol, wr_dv_dv, wr_dv_ct, wr_dv_us, wr_dv_fr, wr_dv_tk, wr_dv_rm, wr_dv_fw, wr_dv_T, wr_dv_O, wr_dv_S, wr_dv_F, wr_dv_rn, wr_ct_tp, wr_ct_tl, wr_ct_tb, wr_ct_ol, wr_ct_dv, wr_ct_ct, wr_ct_us, wr_ct_fr, wr_ct_tk, wr_ct_rm, wr_ct_fw, wr_ct_T, wr_ct_O, wr_ct_S, wr_ct_F, wr_ct_rn, wr_us_tp, wr_us_tl, wr_us_tb, wr_us_ol, wr_us_dv, wr_us_ct, wr_us_us, wr_us_fr, wr_us_tk, wr_us_rm, wr_us_fw, wr_us_T, wr_us_O, wr_us_S, wr_us_F, wr_us_rn, wr_fr_tp, wr_fr_tl, wr_fr_tb, wr_fr_ol, wr_fr_dv, wr_fr_ct, wr_fr_us, wr_fr_fr, wr_fr_tk, wr_fr_rm, wr_fr_fw, wr_fr_T, wr_fr_O, wr_fr_S, wr_fr_F, wr_fr_rn, wr_tk_tp, wr_tk_tl, wr_tk_tb, wr_tk_ol, wr_tk_dv, wr_tk_ct, wr_tk_us, wr_tk_fr, wr_tk_tk, wr_tk_rm, wr_tk_fw, wr_tk_T, wr_tk_O, wr_tk_S, wr_tk_F, wr_tk_rn, wr_rm_tp, wr_rm_tl, wr_rm_tb, wr_rm_ol, wr_rm_dv, wr_rm_ct, wr_rm_us, wr_rm_fr, wr_rm_tk, wr_rm_rm, wr_rm_fw, wr_rm_T, wr_rm_O, wr_rm_S, wr_rm_F, wr_rm_rn, wr_fw_tp, wr_fw_tl, wr_fw_tb, wr_fw_ol, wr_fw_dv, wr_fw_ct, wr_fw_us, wr_fw_fr, wr_fw_tk, wr_fw_rm, wr_fw_fw, wr_fw_T, wr_fw_O, wr_fw_S, wr_fw_F, wr_fw_rn, wr_T_tp, wr_T_tl, wr_T_tb, wr_T_ol, wr_T_dv, wr_T_ct, wr_T_us, wr_T_fr, wr_T_tk, wr_T_rm, wr_T_fw, wr_T_T, wr_T_O, wr_T_S, wr_T_F, wr_T_rn, wr_O_tp, wr_O_tl, wr_O_tb, wr_O_ol, wr_O_dv, wr_O_ct, wr_O_us, wr_O_fr, wr_O_tk, wr_O_rm, wr_O_fw, wr_O_T, wr_O_O, wr_O_S, wr_O_F, wr_O_rn, wr_S_tp, wr_S_tl, wr_S_tb, wr_S_ol, wr_S_dv, wr_S_ct, wr_S_us, wr_S_fr, wr_S_tk, wr_S_rm, wr_S_fw, wr_S_T, wr_S_O, wr_S_S, wr_S_F, wr_S_rn, wr_F_tp, wr_F_tl, wr_F_tb, wr_F_ol, wr_F_dv, wr_F_ct, wr_F_us, wr_F_fr, wr_F_tk, wr_F_rm, wr_F_fw, wr_F_T, wr_F_O, wr_F_S, wr_F_F, wr_F_rn, wr_rn_tp, wr_rn_tl, wr_rn_tb, wr_rn_ol, wr_rn_dv, wr_rn_ct, wr_rn_us, wr_rn_fr, wr_rn_tk, wr_rn_rm, wr_rn_fw, wr_rn_T, wr_rn_O, wr_rn_S, wr_rn_F, wr_rn_rn]
  rw [e8] at hv
  have kv : v.2 2 lost = B.T.kd lost := (hv.kd lost (by omega) l3).1
  rw [rdA_z v 2 (by omega) (by decide), Option.bind_some, kv]
  obtain ⟨U, eU⟩ : ∃ U, U = (B.T.put o n2 id).put d n1 0 := ⟨_, rfl⟩
  have Uk : U.kd = B.T.kd := by rw [eU]; rfl
  have Ul : U.lk = B.T.lk := by rw [eU]; rfl
  have Uf : U.fil = B.T.fil := by rw [eU]; rfl
  have Ue : U.ent = ((B.T.put o n2 id).put d n1 0).ent := by rw [eU]
  rw [← eU] at hv
  unfold TRE.ren
  rw [if_neg l2]
  obtain ⟨V, eV⟩ : ∃ V, V = (B.T.put d n1 0).put o n2 0 := ⟨_, rfl⟩
  have Vk : V.kd = B.T.kd := by rw [eV]; rfl
  have Vl : V.lk = B.T.lk := by rw [eV]; rfl
  have Vf : V.fil = B.T.fil := by rw [eV]; rfl
  have Ve : entP V.ent o n2 id = U.ent := by
    rw [Ue, ← put2_ent hdis, eV]
    rfl
  rw [← eV]
  rcases hk with hk | hk
  · obtain ⟨k1, k2⟩ := hl hk
    rw [if_pos (show nI (B.T.kd lost) = (1 : Int32) by rw [hk]; rfl)]
    have Ukd : ((B.w_T U).w_rn (va_up B.rn id true)).T.kd lost = 1 := by
      show U.kd lost = 1
      rw [Uk, hk]
    refine (loosen_z hF hv (by omega) l3 Ukd (show 1 ≤ U.lk lost by rw [Ul]; exact k1) (show U.lk lost < 2 ^ 31 by rw [Ul]; exact k2)).bd ?_
    rintro _ ⟨t, rfl, ht, t0⟩
    have e7 : (((B.w_T U).w_rn (va_up B.rn id true)).w_T (((B.w_T U).w_rn (va_up B.rn id true)).T.loose lost)).w_rn (va_up ((B.w_T U).w_rn (va_up B.rn id true)).rn lost true) = (B.w_T (U.loose lost)).w_rn (va_up (va_up B.rn id true) lost true) := by
      refine AB_ext ?_ ?_ ?_ ?_ ?_ ?_ ?_ ?_ ?_ ?_ ?_ ?_ ?_ ?_ ?_ ?_ <;> simp only [wr_tp_tp, wr_tp_tl, wr_tp_tb, wr_tp_ol, wr_tp_dv, wr_tp_ct, wr_tp_us, wr_tp_fr, wr_tp_tk, wr_tp_rm, wr_tp_fw, wr_tp_T, wr_tp_O, wr_tp_S, wr_tp_F, wr_tp_rn, wr_tl_tp, wr_tl_tl, wr_tl_tb, wr_tl_ol, wr_tl_dv, wr_tl_ct, wr_tl_us, wr_tl_fr, wr_tl_tk, wr_tl_rm, wr_tl_fw, wr_tl_T, wr_tl_O, wr_tl_S, wr_tl_F, wr_tl_rn, wr_tb_tp, wr_tb_tl, wr_tb_tb, wr_tb_ol, wr_tb_dv, wr_tb_ct, wr_tb_us, wr_tb_fr, wr_tb_tk, wr_tb_rm, wr_tb_fw, wr_tb_T, wr_tb_O, wr_tb_S, wr_tb_F, wr_tb_rn, wr_ol_tp, wr_ol_tl, wr_ol_tb, wr_ol_ol, wr_ol_dv, wr_ol_ct, wr_ol_us, wr_ol_fr, wr_ol_tk, wr_ol_rm, wr_ol_fw, wr_ol_T, wr_ol_O, wr_ol_S, wr_ol_F, wr_ol_rn, wr_dv_tp, wr_dv_tl, wr_dv_tb, wr_dv_ol, wr_dv_dv, wr_dv_ct, wr_dv_us, wr_dv_fr, wr_dv_tk, wr_dv_rm, wr_dv_fw, wr_dv_T, wr_dv_O, wr_dv_S, wr_dv_F, wr_dv_rn, wr_ct_tp, wr_ct_tl, wr_ct_tb, wr_ct_ol, wr_ct_dv, wr_ct_ct, wr_ct_us, wr_ct_fr, wr_ct_tk, wr_ct_rm, wr_ct_fw, wr_ct_T, wr_ct_O, wr_ct_S, wr_ct_F, wr_ct_rn, wr_us_tp, wr_us_tl, wr_us_tb, wr_us_ol, wr_us_dv, wr_us_ct, wr_us_us, wr_us_fr, wr_us_tk, wr_us_rm, wr_us_fw, wr_us_T, wr_us_O, wr_us_S, wr_us_F, wr_us_rn, wr_fr_tp, wr_fr_tl, wr_fr_tb, wr_fr_ol, wr_fr_dv, wr_fr_ct, wr_fr_us, wr_fr_fr, wr_fr_tk, wr_fr_rm, wr_fr_fw, wr_fr_T, wr_fr_O, wr_fr_S, wr_fr_F, wr_fr_rn, wr_tk_tp, wr_tk_tl, wr_tk_tb, wr_tk_ol, wr_tk_dv, wr_tk_ct, wr_tk_us, wr_tk_fr, wr_tk_tk, wr_tk_rm, wr_tk_fw, wr_tk_T, wr_tk_O, wr_tk_S, wr_tk_F, wr_tk_rn, wr_rm_tp, wr_rm_tl, wr_rm_tb, wr_rm_ol, wr_rm_dv, wr_rm_ct, wr_rm_us, wr_rm_fr, wr_rm_tk, wr_rm_rm, wr_rm_fw, wr_rm_T, wr_rm_O, wr_rm_S, wr_rm_F, wr_rm_rn, wr_fw_tp, wr_fw_tl, wr_fw_tb, wr_fw_ol, wr_fw_dv, wr_fw_ct, wr_fw_us, wr_fw_fr, wr_fw_tk, wr_fw_rm, wr_fw_fw, wr_fw_T, wr_fw_O, wr_fw_S, wr_fw_F, wr_fw_rn, wr_T_tp, wr_T_tl, wr_T_tb, wr_T_ol, wr_T_dv, wr_T_ct, wr_T_us, wr_T_fr, wr_T_tk, wr_T_rm, wr_T_fw, wr_T_T, wr_T_O, wr_T_S, wr_T_F, wr_T_rn, wr_O_tp, wr_O_tl, wr_O_tb, wr_O_ol, wr_O_dv, wr_O_ct, wr_O_us, wr_O_fr, wr_O_tk, wr_O_rm, wr_O_fw, wr_O_T, wr_O_O, wr_O_S, wr_O_F, wr_O_rn, wr_S_tp, wr_S_tl, wr_S_tb, wr_S_ol, wr_S_dv, wr_S_ct, wr_S_us, wr_S_fr, wr_S_tk, wr_S_rm, wr_S_fw, wr_S_T, wr_S_O, wr_S_S, wr_S_F, wr_S_rn, wr_F_tp, wr_F_tl, wr_F_tb, wr_F_ol, wr_F_dv, wr_F_ct, wr_F_us, wr_F_fr, wr_F_tk, wr_F_rm, wr_F_fw, wr_F_T, wr_F_O, wr_F_S, wr_F_F, wr_F_rn, wr_rn_tp, wr_rn_tl, wr_rn_tb, wr_rn_ol, wr_rn_dv, wr_rn_ct, wr_rn_us, wr_rn_fr, wr_rn_tk, wr_rn_rm, wr_rn_fw, wr_rn_T, wr_rn_O, wr_rn_S, wr_rn_F, wr_rn_rn]
    rw [e7] at ht
    refine Ev.ret ⟨t, rfl, ?_, by rw [t0, v0, u1]⟩
    obtain ⟨g1, g2⟩ := loose_cg (T := U) (U := V) (f := lost) (Vk.trans Uk.symm) (Vl.trans Ul.symm)
    have hV : V.lose lost = V.loose lost := by
      unfold TRE.lose
      rw [if_neg (by rw [Vk, hk]; decide)]
    rw [hV]
    refine ht.cgT ?_ ?_ ?_ ?_ (fun i _ => ?_)
    · rw [moved_ent, loose_ent', ← Ve]
      show entP (V.loose lost).ent o n2 id = _
      rw [loose_ent']
    · rw [moved_kd]; exact g1
    · rw [moved_lk]; exact g2
    · rw [moved_fil]
      show (V.loose lost).fil = _
      rw [loose_fil', loose_fil', Vf, Uf]
    · by_cases c : i = id
      · rw [c, va_up_self, va_up_ne _ _ hne, va_up_self]
      · rw [va_up_ne _ _ c]
        by_cases c' : i = lost
        · rw [c', va_up_self, va_up_self]
        · rw [va_up_ne _ _ c', va_up_ne _ _ c', va_up_ne _ _ c]
  · rw [if_neg (show ¬ nI (B.T.kd lost) = (1 : Int32) by rw [hk]; decide)]
    refine (dropD_z hF hv l3 (hv.rn lost (by omega) l3).1).bd ?_
    rintro _ ⟨t, rfl, ht, t0, -⟩
    have e7 : ((B.w_T U).w_rn (va_up B.rn id true)).w_T (((B.w_T U).w_rn (va_up B.rn id true)).T.wKd (va_up ((B.w_T U).w_rn (va_up B.rn id true)).T.kd lost 0)) = (B.w_T (U.wKd (va_up U.kd lost 0))).w_rn (va_up B.rn id true) := by
      refine AB_ext ?_ ?_ ?_ ?_ ?_ ?_ ?_ ?_ ?_ ?_ ?_ ?_ ?_ ?_ ?_ ?_ <;> simp only [wr_tp_tp, wr_tp_tl, wr_tp_tb, wr_tp_ol, wr_tp_dv, wr_tp_ct, wr_tp_us, wr_tp_fr, wr_tp_tk, wr_tp_rm, wr_tp_fw, wr_tp_T, wr_tp_O, wr_tp_S, wr_tp_F, wr_tp_rn, wr_tl_tp, wr_tl_tl, wr_tl_tb, wr_tl_ol, wr_tl_dv, wr_tl_ct, wr_tl_us, wr_tl_fr, wr_tl_tk, wr_tl_rm, wr_tl_fw, wr_tl_T, wr_tl_O, wr_tl_S, wr_tl_F, wr_tl_rn, wr_tb_tp, wr_tb_tl, wr_tb_tb, wr_tb_ol, wr_tb_dv, wr_tb_ct, wr_tb_us, wr_tb_fr, wr_tb_tk, wr_tb_rm, wr_tb_fw, wr_tb_T, wr_tb_O, wr_tb_S, wr_tb_F, wr_tb_rn, wr_ol_tp, wr_ol_tl, wr_ol_tb, wr_ol_ol, wr_ol_dv, wr_ol_ct, wr_ol_us, wr_ol_fr, wr_ol_tk, wr_ol_rm, wr_ol_fw, wr_ol_T, wr_ol_O, wr_ol_S, wr_ol_F, wr_ol_rn, wr_dv_tp, wr_dv_tl, wr_dv_tb, wr_dv_ol, wr_dv_dv, wr_dv_ct, wr_dv_us, wr_dv_fr, wr_dv_tk, wr_dv_rm, wr_dv_fw, wr_dv_T, wr_dv_O, wr_dv_S, wr_dv_F, wr_dv_rn, wr_ct_tp, wr_ct_tl, wr_ct_tb, wr_ct_ol, wr_ct_dv, wr_ct_ct, wr_ct_us, wr_ct_fr, wr_ct_tk, wr_ct_rm, wr_ct_fw, wr_ct_T, wr_ct_O, wr_ct_S, wr_ct_F, wr_ct_rn, wr_us_tp, wr_us_tl, wr_us_tb, wr_us_ol, wr_us_dv, wr_us_ct, wr_us_us, wr_us_fr, wr_us_tk, wr_us_rm, wr_us_fw, wr_us_T, wr_us_O, wr_us_S, wr_us_F, wr_us_rn, wr_fr_tp, wr_fr_tl, wr_fr_tb, wr_fr_ol, wr_fr_dv, wr_fr_ct, wr_fr_us, wr_fr_fr, wr_fr_tk, wr_fr_rm, wr_fr_fw, wr_fr_T, wr_fr_O, wr_fr_S, wr_fr_F, wr_fr_rn, wr_tk_tp, wr_tk_tl, wr_tk_tb, wr_tk_ol, wr_tk_dv, wr_tk_ct, wr_tk_us, wr_tk_fr, wr_tk_tk, wr_tk_rm, wr_tk_fw, wr_tk_T, wr_tk_O, wr_tk_S, wr_tk_F, wr_tk_rn, wr_rm_tp, wr_rm_tl, wr_rm_tb, wr_rm_ol, wr_rm_dv, wr_rm_ct, wr_rm_us, wr_rm_fr, wr_rm_tk, wr_rm_rm, wr_rm_fw, wr_rm_T, wr_rm_O, wr_rm_S, wr_rm_F, wr_rm_rn, wr_fw_tp, wr_fw_tl, wr_fw_tb, wr_fw_ol, wr_fw_dv, wr_fw_ct, wr_fw_us, wr_fw_fr, wr_fw_tk, wr_fw_rm, wr_fw_fw, wr_fw_T, wr_fw_O, wr_fw_S, wr_fw_F, wr_fw_rn, wr_T_tp, wr_T_tl, wr_T_tb, wr_T_ol, wr_T_dv, wr_T_ct, wr_T_us, wr_T_fr, wr_T_tk, wr_T_rm, wr_T_fw, wr_T_T, wr_T_O, wr_T_S, wr_T_F, wr_T_rn, wr_O_tp, wr_O_tl, wr_O_tb, wr_O_ol, wr_O_dv, wr_O_ct, wr_O_us, wr_O_fr, wr_O_tk, wr_O_rm, wr_O_fw, wr_O_T, wr_O_O, wr_O_S, wr_O_F, wr_O_rn, wr_S_tp, wr_S_tl, wr_S_tb, wr_S_ol, wr_S_dv, wr_S_ct, wr_S_us, wr_S_fr, wr_S_tk, wr_S_rm, wr_S_fw, wr_S_T, wr_S_O, wr_S_S, wr_S_F, wr_S_rn, wr_F_tp, wr_F_tl, wr_F_tb, wr_F_ol, wr_F_dv, wr_F_ct, wr_F_us, wr_F_fr, wr_F_tk, wr_F_rm, wr_F_fw, wr_F_T, wr_F_O, wr_F_S, wr_F_F, wr_F_rn, wr_rn_tp, wr_rn_tl, wr_rn_tb, wr_rn_ol, wr_rn_dv, wr_rn_ct, wr_rn_us, wr_rn_fr, wr_rn_tk, wr_rn_rm, wr_rn_fw, wr_rn_T, wr_rn_O, wr_rn_S, wr_rn_F, wr_rn_rn]
    rw [e7] at ht
    refine Ev.ret ⟨t, rfl, ?_, by rw [t0, v0, u1]⟩
    have hV : V.lose lost = V.wKd (va_up V.kd lost 0) := by
      unfold TRE.lose
      rw [if_pos (by rw [Vk, hk])]
    rw [hV]
    refine ht.cgT ?_ ?_ ?_ ?_ (fun i q => ?_)
    · rw [moved_ent]; exact Ve
    · rw [moved_kd]
      show va_up V.kd lost 0 = va_up U.kd lost 0
      rw [Vk, Uk]
    · rw [moved_lk]
      show V.lk = U.lk
      rw [Vl, Ul]
    · rw [moved_fil]
      show V.fil = U.fil
      rw [Vf, Uf]
    · have q : va_up U.kd lost 0 i = 1 := q
      have c' : i ≠ lost := fun e => by
        rw [e, va_up_self] at q
        cases q
      by_cases c : i = id
      · rw [c, va_up_self, va_up_self]
      · rw [va_up_ne _ _ c, va_up_ne _ _ c', va_up_ne _ _ c]
