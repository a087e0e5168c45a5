/-! the class: mount, format -/
/-- the same checkpoint out of a state that holds less -/
noncomputable def AB.pre (A : AB) : AB := ((((((A.w_O A.T).w_S (fun _ => false)).w_us A.rm).w_fr 0).w_rn (fun _ => false)))
theorem pre_T (A : AB) : A.pre.T = A.T := rfl
theorem pre_ckpW (A : AB) (u : Nat) : A.pre.ckpW u = A.ckpW u := by
  refine AB_ext ?_ ?_ ?_ ?_ ?_ ?_ ?_ ?_ ?_ ?_ ?_ ?_ ?_ ?_ ?_ ?_ <;> simp only [AB.ckpW, AB.pre, wr_tp_tp, wr_tp_tl, wr_tp_tb, wr_tp_ol, wr_tp_dv, wr_tp_ct, wr_tp_us, wr_tp_fr, wr_tp_tk, wr_tp_rm, wr_tp_fw, wr_tp_T, wr_tp_O, wr_tp_S, wr_tp_F, wr_tp_rn, wr_tl_tp, wr_tl_tl, wr_tl_tb, wr_tl_ol, wr_tl_dv, wr_tl_ct, wr_tl_us, wr_tl_fr, wr_tl_tk, wr_tl_rm, wr_tl_fw, wr_tl_T, wr_tl_O, wr_tl_S, wr_tl_F, wr_tl_rn, wr_tb_tp, wr_tb_tl, wr_tb_tb, wr_tb_ol, wr_tb_dv, wr_tb_ct, wr_tb_us, wr_tb_fr, wr_tb_tk, wr_tb_rm, wr_tb_fw, wr_tb_T, wr_tb_O, wr_tb_S, wr_tb_F, wr_tb_rn, wr_ol_tp, wr_ol_tl, wr_ol_tb, wr_ol_ol, wr_ol_dv, wr_ol_ct, wr_ol_us, wr_ol_fr, wr_ol_tk, wr_ol_rm, wr_ol_fw, wr_ol_T, wr_ol_O, wr_ol_S, wr_ol_F, wr_ol_rn, wr_dv_tp, wr_dv_tl, wr_dv_tb, wr_dv_ol, wr_dv_dv, wr_dv_ct, wr_dv_us, wr_dv_fr, wr_dv_tk, wr_dv_rm, wr_dv_fw, wr_dv_T, wr_dv_O, wr_dv_S, wr_dv_F, wr_dv_rn, wr_ct_tp, wr_ct_tl, wr_ct_tb, wr_ct_ol, wr_ct_dv, wr_ct_ct, wr_ct_us, wr_ct_fr, wr_ct_tk, wr_ct_rm, wr_ct_fw, wr_ct_T, wr_ct_O, wr_ct_S, wr_ct_F, wr_ct_rn, wr_us_tp, wr_us_tl, wr_us_tb, wr_us_ol, wr_us_dv, wr_us_ct, wr_us_us, wr_us_fr, wr_us_tk, wr_us_rm, wr_us_fw, wr_us_T, wr_us_O, wr_us_S, wr_us_F, wr_us_rn, wr_fr_tp, wr_fr_tl, wr_fr_tb, wr_fr_ol, wr_fr_dv, wr_fr_ct, wr_fr_us, wr_fr_fr, wr_fr_tk, wr_fr_rm, wr_fr_fw, wr_fr_T, wr_fr_O, wr_fr_S, wr_fr_F, wr_fr_rn, wr_tk_tp, wr_tk_tl, wr_tk_tb, wr_tk_ol, wr_tk_dv, wr_tk_ct, wr_tk_us, wr_tk_fr, wr_tk_tk, wr_tk_rm, wr_tk_fw, wr_tk_T, wr_tk_O, wr_tk_S, wr_tk_F, wr_tk_rn, wr_rm_tp, wr_rm_tl, wr_rm_tb, wr_rm_ol, wr_rm_dv, wr_rm_ct, wr_rm_us, wr_rm_fr, wr_rm_tk, wr_rm_rm, wr_rm_fw, wr_rm_T, wr_rm_O, wr_rm_S, wr_rm_F, wr_rm_rn, wr_fw_tp, wr_fw_tl, wr_fw_tb, wr_fw_ol, wr_fw_dv, wr_fw_ct, wr_fw_us, wr_fw_fr, wr_fw_tk, wr_fw_rm, wr_fw_fw, wr_fw_T, wr_fw_O, wr_fw_S, wr_fw_F, wr_fw_rn, wr_T_tp, wr_T_tl, wr_T_tb, wr_T_ol, wr_T_dv, wr_T_ct, wr_T_us, wr_T_fr, wr_T_tk, wr_T_rm, wr_T_fw, wr_T_T, wr_T_O, wr_T_S, wr_T_F, wr_T_rn, wr_O_tp, wr_O_tl, wr_O_tb, wr_O_ol, wr_O_dv, wr_O_ct, wr_O_us, wr_O_fr, wr_O_tk, wr_O_rm, wr_O_fw, wr_O_T, wr_O_O, wr_O_S, wr_O_F, wr_O_rn, wr_S_tp, wr_S_tl, wr_S_tb, wr_S_ol, wr_S_dv, wr_S_ct, wr_S_us, wr_S_fr, wr_S_tk, wr_S_rm, wr_S_fw, wr_S_T, wr_S_O, wr_S_S, wr_S_F, wr_S_rn, wr_F_tp, wr_F_tl, wr_F_tb, wr_F_ol, wr_F_dv, wr_F_ct, wr_F_us, wr_F_fr, wr_F_tk, wr_F_rm, wr_F_fw, wr_F_T, wr_F_O, wr_F_S, wr_F_F, wr_F_rn, wr_rn_tp, wr_rn_tl, wr_rn_tb, wr_rn_ol, wr_rn_dv, wr_rn_ct, wr_rn_us, wr_rn_fr, wr_rn_tk, wr_rn_rm, wr_rn_fw, wr_rn_T, wr_rn_O, wr_rn_S, wr_rn_F, wr_rn_rn]
theorem pre_ckp (A : AB) : A.pre.ckp = A.ckp := by
  unfold AB.ckp
  rw [pre_T]
  exact pre_ckpW A _
theorem AI.pre {A : AB} (hT : TWF A.T) (hr : A.rm ≤ 1664) (hm : sm (fun j => auT A.T (1 + j)) 250 ≤ A.rm) : AI A.pre 0 := by
  have eR : A.pre.R = A.T := rfl
  refine ⟨hT, hT, fun i q => (by cases q), fun f hf _ => ⟨hf, rfl⟩, hr, Or.inl (Nat.le_refl _), auT A.T, fun i => ⟨Nat.le_refl _, Nat.le_refl _, ?_⟩, ?_, ?_⟩
  · rw [eR]; exact Nat.le_refl _
  · show sm (fun j => auT A.T (1 + j)) 250 + 0 ≤ A.rm + 0
    omega
  · show sm (fun j => auT A.T (1 + j)) 250 + 0 ≤ A.rm
    omega
theorem take_p {FU : Nat} (hF : 140000 < FU) {z : NSt} {C : AB} (hw : LG z ∧ TR (z.2 6) (BPL (zV z) (z.2 6)) (z.2 9) ∧ NUM (zV z) (z.2 6) ∧ WD z) (ht : TOK (zV z) (z.2 6) C.T) (hld : LED (zV z) (z.2 6) C.T) (hold : zV z (pkB (z.1 11)) 0 ≤ z.1 11) (hsu : zV z 0 0 = z.1 6 ∧ zV z 0 1 ≤ zV z 0 0 ∧ z.1 16 = 16 * (zV z 0 0 - zV z 0 1)) (hT : TWF C.T) (hr : C.rm ≤ 1664) (hm : sm (fun j => auT C.T (1 + j)) 250 ≤ C.rm) (h16 : z.1 16 = C.rm) (h19 : z.1 19 = C.tk) (hrs : C.rm + 384 ≤ 16 * z.1 6) (hse : z.1 11 ≤ 10001 * C.tk) (htk : C.tk ≤ 2000) (hU : 144 ≤ Uz z) :
    Ev (Chk_take FU (up z)) fun r => ∃ y, r = up y ∧ FIN y C.ckp 0 (y.2 6) [] ∧ (∀ k, k ≤ 6 ∨ 20 ≤ k → y.1 k = z.1 k) ∧ (∀ a, a ≤ 3 → y.2 a = z.2 a) := by
  refine (take_c hF (A := C.pre) hw ht hld hold hsu (AI.pre hT hr hm) h16 h19 hrs hse htk hU).mono ?_
  rintro _ ⟨y, e, y1, y2, y3, -⟩
  rw [pre_ckp] at y1
  exact ⟨y, e, y1, y2, y3⟩
theorem FIC.of {z y : NSt} {A C : AB} (h : FIC z A) (h0 : y.1 0 = z.1 0) (h1 : y.1 1 = z.1 1) (h2 : ∀ a, a ≤ 1 → ∀ i, y.2 a i = z.2 a i) (e1 : C.tl = A.tl) (e2 : C.ol = A.ol) (e3 : C.tp = A.tp) (e4 : C.tb = A.tb) (hd : y.1 2 = C.dv) (ht : (C.ct = 0 ∧ y.1 3 = 4294967295) ∨ (C.ct = 1 ∧ y.1 3 < 2 ^ 31)) (hf : y.1 4 = C.fw) (hw : WD y ∧ BS y ∧ ∀ n, 2048 ≤ n → y.2 6 n = 0) : FIC y C := by
  refine ⟨?_, ?_, ?_, ?_, ?_, ?_, ?_, ?_, hd, ht, hf, hw.1, hw.2⟩
  · rw [e1, h0]; exact h.s0
  · rw [e2, h1]; exact h.s1
  · rw [e1]; exact h.tl
  · rw [e2]; exact h.ol
  · intro i hi
    rw [e3, h2 0 (by decide)]; exact h.tp i hi
  · rw [e2, e4]
    intro i hi
    rw [h2 1 (by decide)]; exact h.tb i hi
  · rw [e3]; exact h.tpb
  · rw [e2, e4]; exact h.tbb
theorem FIN.set2 {v u : NSt} {C : AB} {PP : Nat → Nat} (h : FIN v C 0 PP []) (u1 : ∀ k, k ≠ 2 → u.1 k = v.1 k) (u2 : u.2 = v.2) : FIN u C 0 PP [] ∧ WD u ∧ BS u ∧ ∀ n, 2048 ≤ n → u.2 6 n = 0 := by
  have hf := h.nw.fic
  have hw : WD u := fun a a1 a2 i => by rw [u2]; exact hf.1 a a1 a2 i
  refine ⟨h.rows (fun k k1 _ => u1 k (by omega)) (fun a _ => by rw [u2]) hw rfl rfl rfl rfl rfl rfl rfl rfl rfl, hw, ?_⟩
  have := hf.2
  unfold BS LGw zW at this ⊢
  rw [u2]
  exact this
theorem TWF.fil {T : TRE} (h : TWF T) (x : Nat → FV) : TWF (T.wFil x) := ⟨h.noe, h.nl, h.tg, h.lk, h.dl, h.pr, by
  obtain ⟨a, b, c, d⟩ := h.ac
  have e : ∀ m d, upN (T.wFil x) m d = upN T m d := by
    intro m
    induction m with
    | zero => intro d; rfl
    | succ m ih => intro d; exact ih (T.par d)
  exact ⟨a, b, c, fun y hy => by
    obtain ⟨m, m1, m2⟩ := d y hy
    exact ⟨m, m1, by rw [e]; exact m2⟩⟩⟩
theorem cl_mount {FU : Nat} (hF : 140000 < FU) {z : NSt} {A : AB} (h : FI z A) (hA : AI A 0) (htk : A.tk ≤ 2000) : Ans (FF_mount FU (up z)) (mountA A) := by
  have hc := h.1
  unfold mountA FF_mount
  rw [up1, hc.dv]
  have hd3 := h.dv3
  by_cases c : A.dv = 1
  · rw [if_pos (show nI A.dv = (1 : Int32) by rw [c]; rfl), if_pos c]
    rcases h.2 with q | ⟨-, x, PP, ch, o⟩ | ⟨q, -⟩
    · omega
    · have hse := o.se
      have h7 := o.f7
      have hrs := o.rs
      refine (bringBack_s hF o.off (by omega) (by omega)).bd ?_
      rintro _ ⟨y, rfl, b1, b2, b3, b4, b5, b6, b7, b8, b9, b10, b11, b12⟩
      have b7 : y.1 19 = A.tk := b7
      have efw : fcn (zV x) (fun _ => 0) ch = fwdN A := by
        unfold fcn fwdN
        refine sm_congr (fun j _ => ?_)
        rw [o.off.nw.wk.hm]
        show (if 0 = 0 ∧ A.S (1 + j) = true then 1 else 0) = _
        by_cases s : A.S (1 + j) = true
        · rw [if_pos ⟨rfl, s⟩, if_pos s]
        · rw [if_neg (fun w => s w.2), if_neg s]
      rw [nx_eq]
      show Ev ((Chk_take FU (setI (up y) 4 (nI (fcn (zV x) (fun _ => 0) ch)))).bind _) _
      rw [efw, up_I]
      obtain ⟨w, ew⟩ : ∃ w, w = zI y 4 (fwdN A) := ⟨_, rfl⟩
      have w1 : ∀ k, k ≠ 4 → w.1 k = y.1 k := fun k hk => by rw [ew, zI1, if_neg hk]
      have w2 : w.2 = y.2 := by rw [ew]; rfl
      have w4 : w.1 4 = fwdN A := by rw [ew, zI1, if_pos rfl]
      rw [← ew]
      have eV : zV w = zV y := funext (zV_congr (by rw [w2]))
      have hLG : LG w := b1.1.frame (fun k k1 _ => w1 k (by omega)) (fun a _ => by rw [w2])
      have hUz : Uz w = Uz y := Uz_frame (fun k k1 _ => w1 k (by omega))
      obtain ⟨m, m1, m2, m3⟩ := hA.mx
      have hau := sm_le (f := fun j => auT A.R (1 + j)) (g := fun j => m (1 + j)) (n := 250) (fun j _ => (m1 _).2.2)
      obtain ⟨N, eN⟩ : ∃ N, N = fwdN A := ⟨_, rfl⟩
      rw [← eN] at w4 ⊢
      obtain ⟨C, eC⟩ : ∃ C, C = ((A.w_T A.R).w_dv 2).w_fw N := ⟨_, rfl⟩
      have cT : C.T = A.R := by rw [eC]; rfl
      have crm : C.rm = A.rm := by rw [eC]; rfl
      have ctk : C.tk = A.tk := by rw [eC]; rfl
      have cdv : C.dv = 2 := by rw [eC]; rfl
      have cfw : C.fw = N := by rw [eC]; rfl
      have cct : C.ct = A.ct := by rw [eC]; rfl
      have ctl : C.tl = A.tl := by rw [eC]; rfl
      have col : C.ol = A.ol := by rw [eC]; rfl
      have ctp : C.tp = A.tp := by rw [eC]; rfl
      have ctb : C.tb = A.tb := by rw [eC]; rfl
      rw [← eC]
      refine (take_p hF (C := C) ⟨hLG, ?_, ?_, ?_⟩ ?_ ?_ ?_ ?_ ?_ ?_ ?_ ?_ ?_ ?_ ?_ ?_ ?_).bd ?_
      · rw [eV, w2]; exact b1.2.1
      · rw [eV, w2]; exact b1.2.2.1
      · intro a a1 a2 i; rw [w2]; exact b1.2.2.2 a a1 a2 i
      · rw [eV, w2, cT]; exact b2
      · rw [eV, w2, cT]; exact b3
      · rw [eV, w1 11 (by decide)]; exact b4
      · rw [eV, w1 6 (by decide), w1 16 (by decide)]; exact b5
      · rw [cT]; exact hA.ow.fil _
      · rw [crm]; exact hA.rb
      · rw [cT, crm]; omega
      · rw [w1 16 (by decide), b9, crm]; exact o.s16
      · rw [w1 19 (by decide), ctk]; exact b7
      · rw [w1 6 (by decide), b8, crm]; exact hrs
      · rw [w1 11 (by decide), b6, ctk]; exact hse
      · rw [ctk]; exact htk
      · rw [hUz]; omega
      · rintro _ ⟨v, rfl, v1, v2, v3⟩
        rw [nx_eq]
        show Ev (some (0, (setI (up v) 2 (2 : Int32)).1 4, setI (up v) 2 (2 : Int32))) _
        rw [show (2 : Int32) = nI 2 from rfl, up_I]
        obtain ⟨u, eu⟩ : ∃ u, u = zI v 2 2 := ⟨_, rfl⟩
        have u1 : ∀ k, k ≠ 2 → u.1 k = v.1 k := fun k hk => by rw [eu, zI1, if_neg hk]
        have u2 : u.2 = v.2 := by rw [eu]; rfl
        have uu : u.1 2 = 2 := by rw [eu, zI1, if_pos rfl]
        have u4 : u.1 4 = N := by rw [u1 4 (by decide), v2 4 (by decide), w4]
        rw [← eu, up1, u4]
        have e1 : ∀ k, k ≤ 1 ∨ k = 3 → u.1 k = z.1 k := fun k hk => by rw [u1 k (by omega), v2 k (by omega), w1 k (by omega), b11 k (by omega)]
        have e2 : ∀ a, a ≤ 3 → u.2 a = z.2 a := fun a ha => by rw [u2, v3 a ha, w2, b12 a ha]
        obtain ⟨f1, f2⟩ := v1.set2 u1 u2
        have hC : FIC u C := hc.of (e1 0 (by omega)) (e1 1 (by omega)) (fun a ha i => by rw [e2 a (by omega)]) ctl col ctp ctb (by rw [uu, cdv]) (by rw [cct, e1 3 (by omega)]; exact hc.ct) (by rw [u4, cfw]) f2
        exact Ev.ret ⟨u, rfl, FI.mk hC.ckp cdv f1⟩
    · omega
  · rw [if_neg (fun w : nI A.dv = (1 : Int32) => c ((eqN (by omega) (c := 1) (by decide)).mp w)), if_neg c]
    exact Ev.ret ⟨z, rfl, h⟩
/-- numbers below 2^32 -/
def nrm (z : NSt) : NSt := (fun k => z.1 k % 2 ^ 32, fun a i => z.2 a i % 2 ^ 32)
theorem nrm_up (z : NSt) : up (nrm z) = up z := Prod.ext (funext fun k => nI_md _) (funext fun a => funext fun i => nI_md _)
theorem nrm_wd (z : NSt) : WD (nrm z) := fun a _ _ i => Nat.mod_lt _ (by decide)
theorem nrm_r {z : NSt} {a i : Nat} (h : z.2 a i < 2 ^ 32) : (nrm z).2 a i = z.2 a i := Nat.mod_eq_of_lt h
theorem nrm_s {z : NSt} {k : Nat} (h : z.1 k < 2 ^ 32) : (nrm z).1 k = z.1 k := Nat.mod_eq_of_lt h
theorem nrm_LG {z : NSt} (h : LG z) : LG (nrm z) := by
  have h5 : (nrm z).2 5 = z.2 5 := funext fun b => nrm_r (by have := h.1.2.2.2.2.1.1 b; omega)
  have h9 : (nrm z).2 9 = z.2 9 := funext fun b => nrm_r (by have := h.use2 b; omega)
  have h12 : (nrm z).2 12 = z.2 12 := funext fun b => nrm_r (h.free1 b)
  have he := h.end8
  obtain ⟨⟨⟨s1, s2, s3⟩, a2, a3, a4, a5, a6⟩, a7⟩ := h
  have k6 : (nrm z).1 6 = z.1 6 := nrm_s (by omega)
  have k10 : (nrm z).1 10 = z.1 10 := nrm_s (by omega)
  have k8 : (nrm z).1 8 = z.1 8 := nrm_s (by have := a7.1.2.1; omega)
  have k9 : (nrm z).1 9 = z.1 9 := nrm_s (by have := a7.2.1.2.1; omega)
  have k5 : (nrm z).1 5 = z.1 5 := nrm_s (by rw [a6.2]; decide)
  have k7 : (nrm z).1 7 = z.1 7 := nrm_s (by
    rw [a4.2]
    have := sm_bnd (f := z.2 12) (n := 128) (c := 1) (fun i _ => by
      by_cases q : z.2 12 i = 0
      · omega
      · have := (a4.1 i q).1
        omega)
    omega)
  have cb : ∀ (u : Nat → Nat) (k s : Nat), cntF u k s ≤ 16 := fun u k s => by
    unfold cntF
    have := sm_bnd (f := fun j => if u (69 + 16 * s + j) = k then 1 else 0) (n := 16) (c := 1) (fun i _ => by split <;> omega)
    omega
  have r10 : ∀ s, s < 128 → (nrm z).2 10 s = z.2 10 s := fun s hs => nrm_r (by
    rw [(a3 s hs).1]
    have := cb (z.2 9) 1 s
    omega)
  have r11 : ∀ s, s < 128 → (nrm z).2 11 s = z.2 11 s := fun s hs => nrm_r (by
    rw [(a3 s hs).2]
    have := cb (z.2 9) 2 s
    omega)
  have sg8 : sg (z.1 8) < 128 := by
    have := a7.1.2.1
    have := a7.1.1
    unfold sg
    omega
  have sg9 : sg (z.1 9) < 128 := by
    have := a7.2.1.2.1
    have := a7.2.1.1
    unfold sg
    omega
  refine ⟨⟨?_, ?_, ?_, ?_, ?_, ?_⟩, ?_⟩
  · unfold LGs; rw [k6, k10]; exact ⟨s1, s2, s3⟩
  · unfold LGu; rw [h9, h5, k6]; exact a2
  · intro s hs
    rw [h9, r10 s hs, r11 s hs]; exact a3 s hs
  · unfold LGf; rw [h12, h5, k6, k7]; exact a4
  · refine ⟨by rw [h5]; exact a5.1, fun b hb i hi => ?_⟩
    rw [h5] at hb
    have : zW z b i = 0 := a5.2 b hb i hi
    show z.2 4 (64 * b + i) % 2 ^ 32 = 0
    rw [show z.2 4 (64 * b + i) = 0 from this]
  · refine ⟨fun s hs => ?_, by rw [k5]; exact a6.2⟩
    rw [r10 s hs, r11 s hs]; exact a6.1 s hs
  · unfold LGe isE at a7 ⊢
    rw [k6, k8, k9, h12, h5, r11 _ sg8, r10 _ sg9]
    exact a7
def rootT : TRE := newT (TRE.of (fun _ => 0) (fun _ => 0) (fun _ => 0) (fun _ _ => 0) (fun _ => FV.of 0 1 (fun _ => 0) (fun _ => 0))) 1 2 0
theorem root_kd (n : Nat) : rootT.kd n = if n = 1 then 2 else 0 := rfl
theorem root_ent (d n : Nat) : rootT.ent d n = 0 := by
  show va_up (fun _ _ => 0) 1 (fun _ => 0) d n = 0
  unfold va_up
  split <;> rfl
theorem root_par (d : Nat) : rootT.par d = 0 := by
  show va_up (fun _ => 0) 1 0 d = 0
  unfold va_up
  split <;> rfl
theorem root_wf : TWF rootT := by
  refine ⟨fun d n _ => root_ent d n, fun d n q => absurd (root_ent d n) q, fun d n q => absurd (root_ent d n) q, fun f q => ?_, fun x q w => ?_, fun d n q => ?_, ?_, ?_, fun d q w => ?_, fun d q => ?_⟩
  · rw [root_kd] at q
    split at q <;> omega
  · rw [root_kd, if_neg w] at q; omega
  · rw [root_ent, root_kd] at q
    split at q <;> omega
  · rfl
  · rfl
  · rw [root_kd, if_neg w] at q; omega
  · by_cases c : d = 1
    · exact ⟨0, by decide, c⟩
    · rw [root_kd, if_neg c] at q; omega
theorem root_au : sm (fun j => auT rootT (1 + j)) 250 = 1 := by
  have e : ∀ j, j < 250 → auT rootT (1 + j) = va_up (fun _ => 0) 0 1 j := fun j _ => by
    unfold auT va_up
    rw [root_kd]
    by_cases c : j = 0
    · rw [if_pos (show 1 + j = 1 by omega), if_pos rfl, nmc_0 (root_ent _), if_pos c]
    · rw [if_neg (show ¬ 1 + j = 1 by omega), if_neg (by decide), if_pos rfl, if_neg c]
  rw [sm_congr e]
  have := sm_up (f := fun _ => 0) (i := 0) (v := 1) (n := 250) (by decide)
  rw [sm_const] at this
  omega
theorem newDev {z0 z1 z2 : NSt} (h0 : LG z0) (hP : ∀ n, z0.2 6 n = 0) (hU9 : ∀ b, z0.2 9 b = 0) (x1 : z1.1 = z0.1) (xa : ∀ a, a ≠ 17 → z1.2 a = z0.2 a) (x17 : ∀ i, i < 64 → z1.2 17 i = nwI 1 2 0 i) (h2 : LG z2) (hpn : PN z1 17 1 0 z2) :
    TR (z2.2 6) (BPL (zV z2) (z2.2 6)) (z2.2 9) ∧ NUM (zV z2) (z2.2 6) ∧ TOK (zV z2) (z2.2 6) rootT ∧ LED (zV z2) (z2.2 6) rootT ∧ ∀ b, b ≠ z0.1 8 → zV z2 b = zV z0 b := by
  obtain ⟨p1, p2, p3, p4, p5, p6, p7, p8, p9, p10, p11, p12, p13⟩ := id hpn
  have hq : z1.1 8 = z0.1 8 := by rw [x1]
  have he0 := h0.end8
  have e69 : 69 ≤ z0.1 8 := by rw [← hq]; exact p11
  have P2 : ∀ n, z2.2 6 n = if n = 1 then z0.1 8 else 0 := fun n => by
    rw [p3, xa 6 (by decide), hq]
    unfold va_up
    by_cases c : n = 1
    · rw [if_pos c, if_pos c]
    · rw [if_neg c, if_neg c]; exact hP n
  have Vn : ∀ b, b ≠ z0.1 8 → zV z2 b = zV z0 b := fun b hb => by
    rw [hpn.V, if_neg (by rw [hq]; exact hb)]
    exact zV_congr (xa 4 (by decide)) b
  have Ve : ∀ i, i < 64 → zV z2 (z0.1 8) i = ndW (z1.2 17) 1 0 (z1.1 11) (z2.1 8) i := fun i hi => by
    rw [hpn.V, if_pos hq.symm, cutW_lo hi]
  have Vl : ∀ i, i < 59 → zV z2 (z0.1 8) i = nwI 1 2 0 i := fun i hi => by
    rw [Ve i (by omega)]
    unfold ndW
    rw [if_neg (by omega), if_neg (by omega), if_neg (by omega), if_neg (by omega), x17 i (by omega)]
  have V60 : zV z2 (z0.1 8) 60 = 1 := by
    rw [Ve 60 (by decide)]; rfl
  have V61 : zV z2 (z0.1 8) 61 = 1 := by
    rw [Ve 61 (by decide)]
    show z1.2 17 61 = 1
    rw [x17 61 (by decide)]; rfl
  have B0 : ∀ id k, BPL (zV z2) (z2.2 6) id k = 0 := fun id k => by
    unfold BPL
    rw [P2]
    by_cases c : id = 1
    · rw [if_pos c, if_neg (by omega), Vl 0 (by decide), if_pos (show nwI 1 2 0 0 = 2 from rfl)]
      by_cases d : k < 48
      · rw [if_pos d, Vl (6 + k) (by omega)]
        unfold nwI
        rw [if_neg (by omega), if_neg (by omega), if_neg (by omega), if_neg (by omega)]
      · rw [if_neg d]
    · rw [if_neg c, if_pos (Or.inl rfl)]
  have u9 : ∀ b, z2.2 9 b = if b = z0.1 8 then 1 else 0 := fun b => by
    rw [p4, xa 6 (by decide), hP 1, xa 9 (by decide), hq]
    unfold va_up
    by_cases c : b = 0
    · rw [if_pos c, if_neg (by omega)]
    · rw [if_neg c]
      by_cases d : b = z0.1 8
      · rw [if_pos d, if_pos d]
      · rw [if_neg d, if_neg d]; exact hU9 b
  refine ⟨⟨fun n m e q => ?_, fun b => ?_, fun b => ?_, fun n i m j q => absurd (B0 n i) q⟩, fun n q => ?_, ⟨fun id q => ?_, fun id i1 i2 => ?_⟩, fun n hn q => ?_, Vn⟩
  · rw [P2, P2] at e
    rw [P2] at q
    by_cases c : n = 1
    · by_cases d : m = 1
      · rw [c, d]
      · rw [if_pos c, if_neg d] at e; omega
    · rw [if_neg c] at q; omega
  · rw [u9]
    constructor
    · intro q
      by_cases c : b = z0.1 8
      · exact ⟨by omega, 1, by rw [P2, if_pos rfl, c]⟩
      · rw [if_neg c] at q; omega
    · rintro ⟨q, n, e⟩
      rw [P2] at e
      by_cases c : n = 1
      · rw [if_pos c] at e; rw [if_pos e.symm]
      · rw [if_neg c] at e; omega
  · rw [u9]
    constructor
    · intro q
      split at q <;> omega
    · rintro ⟨q, n, i, e⟩
      rw [B0] at e; omega
  · rw [P2] at q ⊢
    by_cases c : n = 1
    · rw [if_pos c, V60, c]; exact ⟨by decide, by decide, rfl⟩
    · rw [if_neg c] at q; omega
  · rw [root_kd] at q ⊢
    by_cases c : id = 1
    · rw [if_pos c]; exact ⟨by omega, by omega, Or.inr rfl⟩
    · rw [if_neg c] at q; omega
  · by_cases c : id = 1
    · have ep : z2.2 6 id = z0.1 8 := by rw [P2, if_pos c]
      have ek : rootT.kd id = 2 := by rw [root_kd, if_pos c]
      have sl : ∀ s, s < 48 → zV z2 (z0.1 8) (6 + s) = 0 := fun s hs => by
        rw [Vl (6 + s) (by omega)]
        unfold nwI
        rw [if_neg (by omega), if_neg (by omega), if_neg (by omega), if_neg (by omega)]
      refine ⟨⟨fun q => by rw [ep] at q; omega, fun q => by rw [ek] at q; omega⟩, fun _ => ?_, fun q => by rw [ek] at q; omega, fun _ => ?_, fun q n => root_ent _ _⟩
      · rw [ep, ek, Vl 0 (by decide), Vl 58 (by decide), V61, c]; exact ⟨rfl, rfl, rfl⟩
      · rw [ep]
        refine ⟨⟨fun s hs q => absurd (sl s hs) q, fun n q => absurd (root_ent _ _) q, fun s s' hs _ q => absurd (sl s hs) q, ?_⟩, ?_, ?_⟩
        · rw [sm_zero (fun s hs => if_pos (sl s hs)), Vl 1 (by decide)]; rfl
        · rw [Vl 2 (by decide), root_par]; rfl
        · rw [Vl 3 (by decide)]; rfl
    · have ep : z2.2 6 id = 0 := by rw [P2, if_neg c]
      have ek : rootT.kd id = 0 := by rw [root_kd, if_neg c]
      exact ⟨⟨fun _ => ek, fun _ => ep⟩, fun q => absurd ek q, fun q => by rw [ek] at q; omega, fun q => by rw [ek] at q; omega, fun _ n => root_ent _ _⟩
  · rw [P2, if_neg (by omega)] at q; omega
theorem cl_format {FU : Nat} (hF : 140000 < FU) {z : NSt} {A : AB} (h : FI z A) {s r : Nat} (hs : s < 2 ^ 32) (hr : r < 2 ^ 32) : Ans (FF_format FU (nI s) (nI r) (up z)) (formatA s r A) := by
  have hc := h.1
  unfold formatA FF_format
  have bad : ¬ (48 ≤ s ∧ s ≤ 128 ∧ 24 ≤ r ∧ r ≤ s / 2) → Ans (some (1, (0 : Int32), up z)) (if 48 ≤ s ∧ s ≤ 128 ∧ 24 ≤ r ∧ r ≤ s / 2 then (0, 0, ((((((A.w_dv 2).w_ct 0).w_fw 0).w_rm (16 * (s - r))).w_tk 0).w_T rootT).ckp) else (1, 0, A)) := fun q => by
    rw [if_neg q]
    exact Ev.ret ⟨_, rfl, h⟩
  by_cases q1 : nI s < (48 : Int32)
  · rw [if_pos q1]
    rw [show (48 : Int32) = nI 48 from rfl, sLt hs (by decide)] at q1
    exact bad (fun w => by omega)
  rw [if_neg q1]
  rw [show (48 : Int32) = nI 48 from rfl, sLt hs (by decide)] at q1
  by_cases q2 : (128 : Int32) < nI s
  · rw [if_pos q2]
    rw [show (128 : Int32) = nI 128 from rfl, sGt (by decide) hs] at q2
    exact bad (fun w => by omega)
  rw [if_neg q2]
  rw [show (128 : Int32) = nI 128 from rfl, sGt (by decide) hs] at q2
  by_cases q3 : nI r < (24 : Int32)
  · rw [if_pos q3]
    rw [show (24 : Int32) = nI 24 from rfl, sLt hr (by decide)] at q3
    exact bad (fun w => by omega)
  rw [if_neg q3]
  rw [show (24 : Int32) = nI 24 from rfl, sLt hr (by decide)] at q3
  have ed : nI s / (2 : Int32) = nI (s / 2) := by
    simp (disch := omega) only [lit_nI, nI_ltI, nI_leI, nI_eq, nI_add, pk_sub, pk_div, nI_64, rdA_z, wrA_z, cpy_z, up1, up_I, nz_n0, nz_n1, zI1, zI2, zR1, zR2, zA1, zA2, Option.bind_some, nx_eq, if_true, if_false, if_pos, if_neg]
  rw [ed]
  by_cases q4 : nI r ≤ nI (s / 2)
  · rw [if_pos q4]
    rw [sLe hr (by omega)] at q4
    have ok : 48 ≤ s ∧ s ≤ 128 ∧ 24 ≤ r ∧ r ≤ s / 2 := ⟨by omega, by omega, by omega, by omega⟩
    rw [if_pos ok]
    rw [nx_eq, nx_eq, show (-1 : Int32) = nI 4294967295 by decide, up_I, show (0 : Int32) = nI 0 from rfl, up_I]
    refine (startAnew_s (z := zI (zI z 3 4294967295) 4 0) hF hc.bs.1 ok.1 ok.2.1 (by omega)).bd ?_
    rintro _ ⟨y0, rfl, g0, hn⟩
    obtain ⟨n1, n2, n3, n4, n5, n6, n7, n8, n9, n10, n11, n12, n13, n14, n15, n16, n17⟩ := id hn
    obtain ⟨z0, e0⟩ : ∃ z0, z0 = nrm y0 := ⟨_, rfl⟩
    rw [← nrm_up y0, ← e0]
    have h0 : LG z0 := by rw [e0]; exact nrm_LG g0
    have hw0 : WD z0 := by rw [e0]; exact nrm_wd _
    have k : ∀ j, y0.1 j < 2 ^ 32 → z0.1 j = y0.1 j := fun j hj => by rw [e0]; exact nrm_s hj
    have k6 : z0.1 6 = s := by rw [k 6 (by omega), n1]
    have k16 : z0.1 16 = 16 * (s - r) := by rw [k 16 (by omega), n2]
    have k19 : z0.1 19 = 0 := by rw [k 19 (by omega), n5]
    have k11 : z0.1 11 = 0 := by rw [k 11 (by omega), n6]
    have hP : ∀ n, z0.2 6 n = 0 := fun n => by
      rw [e0]
      show y0.2 6 n % 2 ^ 32 = 0
      by_cases q : n < 2048
      · rw [(n7 n q).1]
      · rw [n17 n (by omega)]
        show z.2 6 n % 2 ^ 32 = 0
        rw [hc.bs.2 n (by omega)]
    have hU9 : ∀ b, z0.2 9 b = 0 := fun b => by
      rw [e0]
      show y0.2 9 b % 2 ^ 32 = 0
      rw [n9 b]
    have hUz : Uz z0 = 16 * s := by
      rw [← n16]
      have he := g0.2
      have hb := g0.1.1.2.1
      have h1 := he.1.2.1
      have h2 := he.2.1.2.1
      unfold Uz
      rw [k 7 (by omega), k 8 (by omega), k 9 (by omega)]
    have W0 : ∀ b i, zW z0 b i = zW y0 b i % 2 ^ 32 := fun b i => by rw [e0]; rfl
    have ar : ∀ a, a ≤ 3 → ∀ i, z0.2 a i = z.2 a i := fun a ha i => by
      rw [e0]
      show y0.2 a i % 2 ^ 32 = _
      rw [n14 a (by omega) (by omega) (by omega) (by omega) (by omega) (by omega) (by omega) (by omega) (by omega) (by omega)]
      exact Nat.mod_eq_of_lt (hc.wd a (by omega) (by omega) i)
    have sc : ∀ j, j ≤ 4 → y0.1 j = (zI (zI z 3 4294967295) 4 0).1 j := fun j hj => n15 j (by omega) (by omega) (by omega) (by omega) (by omega) (by omega) (by omega) (by omega) (by omega) (by omega) (by omega)
    have htl := hc.tl
    have hol := hc.ol
    have sc0 : z0.1 0 = A.tl := by
      have e := sc 0 (by decide)
      have e' : (zI (zI z 3 4294967295) 4 0).1 0 = A.tl := hc.s0
      rw [k 0 (by omega), e, e']
    have sc1 : z0.1 1 = A.ol := by
      have e := sc 1 (by decide)
      have e' : (zI (zI z 3 4294967295) 4 0).1 1 = A.ol := hc.s1
      rw [k 1 (by omega), e, e']
    have sc3 : z0.1 3 = 4294967295 := by
      have e := sc 3 (by decide)
      have e' : (zI (zI z 3 4294967295) 4 0).1 3 = 4294967295 := rfl
      rw [k 3 (by omega), e, e']
    have sc4 : z0.1 4 = 0 := by
      have e := sc 4 (by decide)
      have e' : (zI (zI z 3 4294967295) 4 0).1 4 = 0 := rfl
      rw [k 4 (by omega), e, e']
    unfold Tre_makeRoot
    obtain ⟨w, ew, z1, z2, rfl, x1, xa, x17, x17', h2, hpn⟩ := putNew_s (lp := 0) hF h0 (by omega) (id := 1) (kind := 2) (by decide) (by decide) (Or.inr rfl) (Or.inl (hP 1))
    rw [show (1 : Int32) = nI 1 from rfl, show (2 : Int32) = nI 2 from rfl, show (0 : Int32) = nI 0 from rfl, ew, Option.bind_some, Option.bind_some]
    obtain ⟨d1, d2, d3, d4, d5⟩ := newDev h0 hP hU9 x1 xa x17 h2 hpn
    have hw1 : WD z1 := fun a a1 a2 i => by
      by_cases c : a = 17
      · rw [c]
        by_cases d : i < 64
        · rw [x17 i d]
          unfold nwI
          repeat' split
          all_goals decide
        · rw [x17' i (by omega)]; exact hw0 17 (by decide) (by decide) i
      · rw [xa a c]; exact hw0 a a1 a2 i
    have hw2 : WD z2 := hpn.wd h2 (by decide) hw1 (by decide) (by decide) (by rw [x1, k11]; decide)
    have s2 : ∀ j, j ≠ 7 → j ≠ 8 → j ≠ 10 → z2.1 j = z0.1 j := fun j a b c => by rw [hpn.2.2.2.2.2.2.1 j a b c, x1]
    have a2 : ∀ a, a ≤ 3 → ∀ i, z2.2 a i = z.2 a i := fun a ha i => by
      rw [hpn.2.2.2.2.2.1 a (by omega) (by omega) (by omega) (by omega) (by omega) (by omega) (by omega) (by omega), xa a (by omega)]
      exact ar a ha i
    have hU2 : Uz z2 + 1 = 16 * s := by
      have e := hpn.2.2.2.2.2.2.2.1
      have : Uz z1 = Uz z0 := by unfold Uz; rw [x1]
      omega
    have e69 : 69 ≤ z0.1 8 := by
      have := h0.2.1.1
      exact this
    have v00 : zV z2 0 0 = s := by
      rw [d5 0 (by omega), zV_W (by decide), W0, n11]
      omega
    have v01 : zV z2 0 1 = r := by
      rw [d5 0 (by omega), zV_W (by decide), W0, n12]
      omega
    have v10 : zV z2 (pkB 0) 0 = 0 := by
      have e : pkB 0 = 1 := rfl
      rw [e, d5 1 (by omega), zV_W (by decide), W0]
      have := g0.1.2.2.2.2.1.2 1 (n13 1 (by decide) (by decide)) 0 (by decide)
      rw [this]
    have hm : sm (fun j => auT rootT (1 + j)) 250 ≤ 16 * (s - r) := by rw [root_au]; omega
    obtain ⟨C, eC⟩ : ∃ C, C = ((((((A.w_dv 2).w_ct 0).w_fw 0).w_rm (16 * (s - r))).w_tk 0).w_T rootT) := ⟨_, rfl⟩
    have cT : C.T = rootT := by rw [eC]; rfl
    have crm : C.rm = 16 * (s - r) := by rw [eC]; rfl
    have ctk : C.tk = 0 := by rw [eC]; rfl
    have cdv : C.dv = 2 := by rw [eC]; rfl
    have cfw : C.fw = 0 := by rw [eC]; rfl
    have cct : C.ct = 0 := by rw [eC]; rfl
    have ctl : C.tl = A.tl := by rw [eC]; rfl
    have col : C.ol = A.ol := by rw [eC]; rfl
    have ctp : C.tp = A.tp := by rw [eC]; rfl
    have ctb : C.tb = A.tb := by rw [eC]; rfl
    show Ev _ (fun q => ∃ y, q = (0, nI 0, up y) ∧ FI y ((((((A.w_dv 2).w_ct 0).w_fw 0).w_rm (16 * (s - r))).w_tk 0).w_T rootT).ckp)
    rw [← eC]
    refine (take_p hF (C := C) ⟨h2, d1, d2, hw2⟩ (by rw [cT]; exact d3) (by rw [cT]; exact d4) ?_ ?_ (by rw [cT]; exact root_wf) (by rw [crm]; omega) (by rw [cT, crm]; exact hm) ?_ ?_ ?_ ?_ (by rw [ctk]; decide) (by omega)).bd ?_
    · rw [s2 11 (by decide) (by decide) (by decide), k11, v10]; exact Nat.le_refl _
    · rw [v00, v01, s2 6 (by decide) (by decide) (by decide), k6, s2 16 (by decide) (by decide) (by decide), k16]
      exact ⟨rfl, by omega, rfl⟩
    · rw [s2 16 (by decide) (by decide) (by decide), k16, crm]
    · rw [s2 19 (by decide) (by decide) (by decide), k19, ctk]
    · rw [s2 6 (by decide) (by decide) (by decide), k6, crm]
      omega
    · rw [s2 11 (by decide) (by decide) (by decide), k11]; exact Nat.zero_le _
    · rintro _ ⟨v, rfl, v1, v2, v3⟩
      rw [nx_eq, up_I]
      obtain ⟨u, eu⟩ : ∃ u, u = zI v 2 2 := ⟨_, rfl⟩
      have u1 : ∀ j, j ≠ 2 → u.1 j = v.1 j := fun j hj => by rw [eu, zI1, if_neg hj]
      have u2 : u.2 = v.2 := by rw [eu]; rfl
      have uu : u.1 2 = 2 := by rw [eu, zI1, if_pos rfl]
      rw [← eu]
      have e1 : ∀ j, j ≤ 1 ∨ j = 3 ∨ j = 4 → u.1 j = z0.1 j := fun j hj => by rw [u1 j (by omega), v2 j (by omega), s2 j (by omega) (by omega) (by omega)]
      have e2 : ∀ a, a ≤ 3 → ∀ i, u.2 a i = z.2 a i := fun a ha i => by rw [u2, v3 a ha]; exact a2 a ha i
      obtain ⟨f1, f2⟩ := v1.set2 u1 u2
      have hC : FIC u C := hc.of (by rw [e1 0 (by omega), sc0, hc.s0]) (by rw [e1 1 (by omega), sc1, hc.s1]) (fun a ha i => e2 a (by omega) i) ctl col ctp ctb (by rw [uu, cdv]) (Or.inl ⟨cct, by rw [e1 3 (by omega)]; exact sc3⟩) (by rw [e1 4 (by omega), sc4, cfw]) f2
      exact Ev.ret ⟨u, rfl, FI.mk hC.ckp cdv f1⟩
  · rw [if_neg q4]
    rw [sLe hr (by omega)] at q4
    exact bad (fun w => by omega)
