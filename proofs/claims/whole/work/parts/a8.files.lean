/-! the class: calls of files, and what is told -/
theorem sLt {a b : Nat} (ha : a < 2 ^ 32) (hb : b < 2 ^ 31) : nI a < nI b ↔ a < b ∨ 2 ^ 31 ≤ a := by
  rw [nI_ltS ha (by omega), sgn_lo hb]
  by_cases c : a < 2 ^ 31
  · rw [sgn_lo c]; omega
  · rw [sgn_hi c]; omega
theorem sGt {a b : Nat} (ha : a < 2 ^ 31) (hb : b < 2 ^ 32) : nI a < nI b ↔ a < b ∧ b < 2 ^ 31 := by
  rw [nI_ltS (by omega) hb, sgn_lo ha]
  by_cases c : b < 2 ^ 31
  · rw [sgn_lo c]; omega
  · rw [sgn_hi c]; omega
theorem sLe {a b : Nat} (ha : a < 2 ^ 32) (hb : b < 2 ^ 31) : nI a ≤ nI b ↔ a ≤ b ∨ 2 ^ 31 ≤ a := by
  rw [nI_leS ha (by omega), sgn_lo hb]
  by_cases c : a < 2 ^ 31
  · rw [sgn_lo c]; omega
  · rw [sgn_hi c]; omega
theorem sGe {a b : Nat} (ha : a < 2 ^ 31) (hb : b < 2 ^ 32) : nI a ≤ nI b ↔ a ≤ b ∧ b < 2 ^ 31 := by
  rw [nI_leS (by omega) hb, sgn_lo ha]
  by_cases c : b < 2 ^ 31
  · rw [sgn_lo c]; omega
  · rw [sgn_hi c]; omega
theorem nI_md (n : Nat) : nI (n % 2 ^ 32) = nI n := by
  refine Int32.toBitVec_inj.mp (BitVec.eq_of_toNat_eq ?_)
  show (BitVec.ofNat 32 (n % 2 ^ 32)).toNat = (BitVec.ofNat 32 n).toNat
  rw [BitVec.toNat_ofNat, BitVec.toNat_ofNat, Nat.mod_mod]
/-- one row as numbers below 2^32 -/
theorem nrm1 (y : NSt) (b : Nat) : up (zR y b (fun i => y.2 b i % 2 ^ 32)) = up y := by
  refine Prod.ext rfl (funext fun a => funext fun i => ?_)
  show nI ((zR y b (fun i => y.2 b i % 2 ^ 32)).2 a i) = nI (y.2 a i)
  rw [zR2]
  by_cases c : a = b
  · rw [if_pos c, c]
    exact nI_md _
  · rw [if_neg c]
theorem FIN.rows2 {z y : NSt} {A B : AB} {s : Nat} {PP : Nat → Nat} {ch : List Nat} (h : FIN z A s PP ch) (h1 : ∀ k, 5 ≤ k → k ≤ 11 ∨ 16 ≤ k → y.1 k = z.1 k) (h2 : ∀ a, 4 ≤ a → a ≤ 12 → y.2 a = z.2 a) (hw : WD y) (eT : B.T = A.T) (eO : B.O = A.O) (eS : B.S = A.S) (eF : B.F = A.F) (eu : B.us = A.us) (ef : B.fr = A.fr) (ek : B.tk = A.tk) (er : B.rm = A.rm) (en : B.rn = A.rn) : FIN y B s PP ch := by
  have eR : B.R = A.R := by unfold AB.R; rw [eO, eS, eF]
  have hz : Uz y = Uz z := Uz_frame (fun k _ _ => h1 k (by omega) (by omega))
  refine ⟨?_, ?_, ?_, ?_, ?_, ?_, ?_, ?_, ?_, ?_, ?_, by rw [eu]; exact h.u28⟩
  · rw [eT, eR, ek, eS]
    exact h.nw.frame (h2 4 (by decide) (by decide)) (h2 6 (by decide) (by decide)) (h.nw.wk.mem (fun k k1 _ => h1 k k1 (by omega)) (fun a a1 a2 _ _ => h2 a a1 a2) (fun n _ => Or.inl (by rw [h2 7 (by decide) (by decide)])) hw)
  · rw [eO]; exact h.pi
  · rw [eT, en, h2 8 (by decide) (by decide)]; exact h.st
  · rw [h1 16 (by decide) (by decide), er]; exact h.s16
  · rw [h1 17 (by decide) (by decide), eu]; exact h.s17
  · rw [h1 18 (by decide) (by decide), ef]; exact h.s18
  · rw [h1 19 (by decide) (by decide), ek]; exact h.s19
  · rw [er, eu, ef, hz]; exact h.uz
  · rw [KC_congr (h2 7 (by decide) (by decide)), eu, ef, er]; exact h.kc
  · rw [h1 11 (by decide) (by decide), ek]; exact h.se
  · rw [h1 6 (by decide) (by decide), er]; exact h.rs
theorem wrF_congr {f : FV} {at' n : Nat} {t t' : Nat → Nat} (h : ∀ i, i < n → t i = t' i) : wrF f at' n t = wrF f at' n t' := by
  unfold wrF
  have : (fun i => if at' ≤ i ∧ i < at' + n then t (i - at') % 256 else f.byt i) = (fun i => if at' ≤ i ∧ i < at' + n then t' (i - at') % 256 else f.byt i) := by
    funext i
    by_cases c : at' ≤ i ∧ i < at' + n
    · rw [if_pos c, if_pos c, h _ (by omega)]
    · rw [if_neg c, if_neg c]
  rw [this]
theorem fil_kd (T : TRE) (x : Nat → FV) : (T.wFil x).kd = T.kd := rfl
theorem FIC.tl0 {z : NSt} {A : AB} (h : FIC z A) : FIC (zI z 0 0) (A.w_tl 0) := h.setTl
theorem cl_write {FU : Nat} (hF : 140000 < FU) {z : NSt} {A : AB} (h : FI z A) (hA : AI A 0) (htk : A.tk ≤ 2000) {f at' n : Nat} (hf : f < 2 ^ 32) (ha : at' < 2 ^ 32) (hn : n < 2 ^ 32) : Ans (FF_write FU (nI f) (nI at') (nI n) (up z)) (writeA f at' n A) := by
  unfold writeA
  by_cases c : A.dv = 2
  · rw [pwrA_yes c]
    obtain ⟨hc, PP, ch, hfi⟩ := h.on c
    have y1 := hc.setTl
    have y2 : FIN (zI z 0 0) (A.w_tl 0) 0 PP ch := hfi.rows (fun k k1 _ => by rw [zI1, if_neg (by omega)]) (fun a _ => rfl) hc.wd rfl rfl rfl rfl rfl rfl rfl rfl rfl
    have nw : NW (zI z 0 0) A.T A.R (A.tk, A.S) PP ch := y2.nw
    have htl := hc.tl
    unfold FF_write Row_length Row_setLength
    rw [pwr_yes FU hc c, Option.bind_some, if_pos (show (0 : Nat) = 0 from rfl), Option.bind_some]
    show Ev ((nx (setI (up z) 0 (0 : Int32)) fun g1 => some g1).bind _) _
    rw [nx_eq, show (0 : Int32) = nI 0 from rfl, up_I, Option.bind_some, file_s FU nw hf, Option.bind_some]
    have e0 : (up z).1 0 = nI A.tl := by rw [up1, hc.s0]
    have bad : ¬ (A.T.kd f = 1 ∧ 1 ≤ n ∧ n ≤ 2000 ∧ n ≤ A.tl ∧ at' + n ≤ 100000) → Ans (some (1, (0 : Int32), up (zI z 0 0))) (if ¬ (A.T.kd f = 1 ∧ 1 ≤ n ∧ n ≤ 2000 ∧ n ≤ A.tl ∧ at' + n ≤ 100000) then (1, 0, A.w_tl 0) else rsvA ((at' + n - 1) / 256 - at' / 256 + 7) (A.w_tl 0) (fun B => (0, (wrF (B.T.fil f) at' n A.tp).sz, B.w_T (B.T.wFil (va_up B.T.fil f (wrF (B.T.fil f) at' n A.tp)))))) := fun q => by
      rw [if_pos q]
      exact Ev.ret ⟨_, rfl, FI.mk y1 c y2⟩
    by_cases q0 : A.T.kd f = 1
    · rw [if_pos q0, if_pos (show (0 : Nat) = 0 from rfl)]
      by_cases q1 : nI n < (1 : Int32)
      · rw [if_pos q1]
        rw [show (1 : Int32) = nI 1 from rfl, sLt hn (by decide)] at q1
        exact bad (fun w => by omega)
      rw [if_neg q1]
      rw [show (1 : Int32) = nI 1 from rfl, sLt hn (by decide)] at q1
      by_cases q2 : (2000 : Int32) < nI n
      · rw [if_pos q2]
        rw [show (2000 : Int32) = nI 2000 from rfl, sGt (by decide) hn] at q2
        exact bad (fun w => by omega)
      rw [if_neg q2]
      rw [show (2000 : Int32) = nI 2000 from rfl, sGt (by decide) hn] at q2
      show Ev (if (up z).1 0 < nI n then _ else _) _
      rw [e0]
      by_cases q3 : nI A.tl < nI n
      · rw [if_pos q3]
        rw [sGt (by omega) hn] at q3
        exact bad (fun w => by omega)
      rw [if_neg q3]
      rw [sGt (by omega) hn] at q3
      by_cases q4 : nI at' < (nI 0)
      · rw [if_pos q4]
        rw [sLt ha (by decide)] at q4
        exact bad (fun w => by omega)
      rw [if_neg q4]
      rw [sLt ha (by decide)] at q4
      have e5 : (100000 : Int32) - nI n = nI (100000 - n) := by
        rw [show (100000 : Int32) = nI 100000 from rfl, pk_sub (by omega)]
      rw [e5]
      by_cases q5 : nI at' ≤ nI (100000 - n)
      · rw [if_pos q5]
        rw [sLe ha (by omega)] at q5
        have ok : A.T.kd f = 1 ∧ 1 ≤ n ∧ n ≤ 2000 ∧ n ≤ A.tl ∧ at' + n ≤ 100000 := ⟨q0, by omega, by omega, by omega, by omega⟩
        rw [if_neg (not_not_intro ok)]
        have e6 : ((((nI at' + nI n - (1 : Int32)) / (256 : Int32) - nI at' / (256 : Int32)) + (1 : Int32)) + (6 : Int32)) = nI ((at' + n - 1) / 256 - at' / 256 + 7) := by
          simp (disch := omega) only [lit_nI, nI_ltI, nI_leI, nI_eq, nI_add, pk_sub, pk_div, nI_64, rdA_z, wrA_z, cpy_z, up1, up_I, nz_n0, nz_n1, zI1, zI2, zR1, zR2, zA1, zA2, Option.bind_some, nx_eq, if_true, if_false, if_pos, if_neg]
        rw [e6]
        refine rsv_s hF y1 y2 (hA.tl 0) c htk (by omega) (K := fun g => (Fil_putBytes FU 0 (nI f) (nI at') (nI n) g).bind fun p6 => some (0, p6.1, p6.2)) (fun w PP' ch' w1 w2 w3 w4 w5 w6 w7 => ?_)
        obtain ⟨N, eN⟩ : ∃ N, N = (at' + n - 1) / 256 - at' / 256 + 7 := ⟨_, rfl⟩
        rw [← eN] at w1 w2 w3 w4 w7 ⊢
        obtain ⟨B, eB⟩ : ∃ B, B = rsvB N (A.w_tl 0) := ⟨_, rfl⟩
        have htB : B.tk ≤ 3000 := by
          rw [eB]; exact Nat.le_trans rsvB_tk (show A.tk + 1 ≤ 3000 by omega)
        rw [← eB] at w1 w2 w3 w4 w7 ⊢
        have hu := w3.u162
        have hse := w3.se32 htB
        have hkc := w3.kc.2
        have hrb := w4.rb
        have kf : B.T.kd f = 1 := by rw [w7]; exact q0
        have et : wrF (B.T.fil f) at' n (w.2 0) = wrF (B.T.fil f) at' n A.tp := wrF_congr (fun i hi => by
          rw [w6 0 (by decide)]
          exact hc.tp i (by omega))
        refine (putBytes_s hF w3.nw kf ok.2.1 ok.2.2.1 ok.2.2.2.2 (by omega) hse (by omega)).bd ?_
        rintro _ ⟨x, ch1, rfl, x1, x2, x3, x4, x5⟩
        rw [et] at x1
        refine Ev.ret ⟨x, by rw [et], FI.mk (w1.act' x2 x1) w2 (w3.act' x1 x2 (by omega) (by omega) x3 (fun g q => q))⟩
      · rw [if_neg q5]
        rw [sLe ha (by omega)] at q5
        exact bad (fun w => by omega)
    · rw [if_neg q0, if_neg (show ¬ (1 : Nat) = 0 by decide)]
      exact bad (fun w => q0 w.1)
  · rw [pwrA_no c]
    unfold FF_write
    rw [pwr_no FU h c, Option.bind_some, if_neg (show ¬ (2 : Nat) = 0 by decide)]
    exact Ans.no h 2
theorem cl_read {FU : Nat} (hF : 140000 < FU) {z : NSt} {A : AB} (h : FI z A) {f at' n : Nat} (hf : f < 2 ^ 32) (ha : at' < 2 ^ 32) (hn : n < 2 ^ 32) : Ans (FF_read FU (nI f) (nI at') (nI n) (up z)) (readA f at' n A) := by
  unfold readA
  by_cases c : A.dv = 2
  · rw [pwrA_yes c]
    obtain ⟨hc, PP, ch, hfi⟩ := h.on c
    have nw := hfi.nw
    unfold FF_read
    rw [pwr_yes FU hc c, Option.bind_some, if_pos (show (0 : Nat) = 0 from rfl), file_s FU nw hf, Option.bind_some]
    have bad : ¬ (A.T.kd f = 1 ∧ 1 ≤ n ∧ n ≤ 2000 ∧ at' < 2 ^ 31) → Ans (some (1, (0 : Int32), up z)) (if ¬ (A.T.kd f = 1 ∧ 1 ≤ n ∧ n ≤ 2000 ∧ at' < 2 ^ 31) then (1, 0, A) else (0, readL (A.T.fil f) at' n, (A.w_tb (fun j => (A.T.fil f).byt (at' + j))).w_ol (readL (A.T.fil f) at' n))) := fun q => by
      rw [if_pos q]
      exact Ev.ret ⟨_, rfl, FI.mk hc c hfi⟩
    by_cases q0 : A.T.kd f = 1
    · rw [if_pos q0, if_pos (show (0 : Nat) = 0 from rfl)]
      by_cases q1 : nI n < (1 : Int32)
      · rw [if_pos q1]
        rw [show (1 : Int32) = nI 1 from rfl, sLt hn (by decide)] at q1
        exact bad (fun w => by omega)
      rw [if_neg q1]
      rw [show (1 : Int32) = nI 1 from rfl, sLt hn (by decide)] at q1
      by_cases q2 : (2000 : Int32) < nI n
      · rw [if_pos q2]
        rw [show (2000 : Int32) = nI 2000 from rfl, sGt (by decide) hn] at q2
        exact bad (fun w => by omega)
      rw [if_neg q2]
      rw [show (2000 : Int32) = nI 2000 from rfl, sGt (by decide) hn] at q2
      by_cases q4 : (0 : Int32) ≤ nI at'
      · rw [if_pos q4]
        rw [show (0 : Int32) = nI 0 from rfl, sGe (by decide) ha] at q4
        have ok : A.T.kd f = 1 ∧ 1 ≤ n ∧ n ≤ 2000 ∧ at' < 2 ^ 31 := ⟨q0, by omega, by omega, q4.2⟩
        rw [if_neg (not_not_intro ok)]
        refine (tellBytes_s hF nw q0 ok.2.1 ok.2.2.1 ok.2.2.2).bd ?_
        rintro _ ⟨y, L, rfl, eL, hT⟩
        have eR : readL (A.T.fil f) at' n = L := by
          unfold readL; exact eL.symm
        have hr := hT.rd
        have hfv := nw.tok.tfa.fv f q0
        obtain ⟨w, ew⟩ : ∃ w, w = zR y 1 (fun i => y.2 1 i % 2 ^ 32) := ⟨_, rfl⟩
        have wu : up w = up y := by rw [ew]; exact nrm1 y 1
        have wa : ∀ a, a ≠ 1 → w.2 a = y.2 a := fun a ha => by rw [ew, zR2, if_neg ha]
        have w1 : w.1 = y.1 := by rw [ew]; rfl
        have wt : ∀ i, w.2 1 i = y.2 1 i % 2 ^ 32 := fun i => by rw [ew, zR2, if_pos rfl]
        have hLn : L ≤ 2000 := by rw [eL]; split <;> (try split) <;> omega
        have hl := hT.ln
        rw [show at' + L - at' = L by omega] at hl
        have hby := hT.by'
        rw [show at' + L - at' = L by omega] at hby
        have hwd : WD w := fun a a1 a2 i => by
          by_cases c1 : a = 1
          · rw [c1, wt]; exact Nat.mod_lt _ (by decide)
          · rw [wa a c1]
            by_cases c2 : 13 ≤ a ∧ a ≤ 16
            · exact hr.wd a c2.1 c2.2 i
            · rw [hr.ar a c1 (by omega)]; exact hc.wd a a1 a2 i
        have hbs := hc.bs
        refine Ev.ret ⟨w, by rw [wu, eR], FI.mk ?_ c (hfi.rows2 (fun k k1 k2 => by rw [w1, hr.sc k (by omega) (by omega)]) (fun a a1 a2 => by rw [wa a (by omega), hr.ar a (by omega) (by omega)]) hwd rfl rfl rfl rfl rfl rfl rfl rfl rfl)⟩
        have k1 : ∀ k, k ≠ 1 → k ≤ 4 → w.1 k = z.1 k := fun k k1 k2 => by rw [w1, hr.sc k k1 (by omega)]
        have hwb : ∀ j, j < L → w.2 1 j = (A.T.fil f).byt (at' + j) := fun j hj => by
          have := hfv.byb (at' + j)
          rw [wt, hby j hj]
          omega
        rw [eR]
        refine ⟨?_, ?_, hc.tl, hLn, ?_, hwb, hc.tpb, fun i _ => hfv.byb _, ?_, ?_, ?_, hwd, ?_⟩
        · rw [k1 0 (by decide) (by decide)]; exact hc.s0
        · rw [w1]; exact hl
        · intro i hi
          rw [wa 0 (by decide), hr.ar 0 (by decide) (by omega)]; exact hc.tp i hi
        · rw [k1 2 (by decide) (by decide)]; exact hc.dv
        · rw [k1 3 (by decide) (by decide)]; exact hc.ct
        · rw [k1 4 (by decide) (by decide)]; exact hc.fw
        · have e : ∀ a, 4 ≤ a → a ≤ 12 → w.2 a = z.2 a := fun a a1 a2 => by rw [wa a (by omega), hr.ar a (by omega) (by omega)]
          unfold BS LGw zW at hbs ⊢
          rw [e 4 (by decide) (by decide), e 5 (by decide) (by decide), e 6 (by decide) (by decide), e 9 (by decide) (by decide), e 12 (by decide) (by decide)]
          exact hbs
      · rw [if_neg q4]
        rw [show (0 : Int32) = nI 0 from rfl, sGe (by decide) ha] at q4
        exact bad (fun w => by omega)
    · rw [if_neg q0, if_neg (show ¬ (1 : Nat) = 0 by decide)]
      exact bad (fun w => q0 w.1)
  · rw [pwrA_no c]
    unfold FF_read
    rw [pwr_no FU h c, Option.bind_some, if_neg (show ¬ (2 : Nat) = 0 by decide)]
    exact Ans.no h 2
theorem cl_trunc {FU : Nat} (hF : 140000 < FU) {z : NSt} {A : AB} (h : FI z A) (hA : AI A 0) (htk : A.tk ≤ 2000) {f s : Nat} (hf : f < 2 ^ 32) (hs : s < 2 ^ 32) : Ans (FF_truncate FU (nI f) (nI s) (up z)) (truncA f s A) := by
  unfold truncA
  by_cases c : A.dv = 2
  · rw [pwrA_yes c]
    obtain ⟨hc, PP, ch, hfi⟩ := h.on c
    have nw := hfi.nw
    unfold FF_truncate
    rw [pwr_yes FU hc c, Option.bind_some, if_pos (show (0 : Nat) = 0 from rfl), file_s FU nw hf, Option.bind_some]
    have bad : ¬ (A.T.kd f = 1 ∧ s ≤ 100000) → Ans (some (1, (0 : Int32), up z)) (if ¬ (A.T.kd f = 1 ∧ s ≤ 100000) then (1, 0, A) else rsvA 6 A (fun B => (0, 0, B.w_T (B.T.wFil (va_up B.T.fil f (trF (B.T.fil f) s)))))) := fun q => by
      rw [if_pos q]
      exact Ev.ret ⟨_, rfl, FI.mk hc c hfi⟩
    by_cases q0 : A.T.kd f = 1
    · rw [if_pos q0, if_pos (show (0 : Nat) = 0 from rfl)]
      by_cases q1 : nI s < (0 : Int32)
      · rw [if_pos q1]
        rw [show (0 : Int32) = nI 0 from rfl, sLt hs (by decide)] at q1
        exact bad (fun w => by omega)
      rw [if_neg q1]
      rw [show (0 : Int32) = nI 0 from rfl, sLt hs (by decide)] at q1
      by_cases q2 : nI s ≤ (100000 : Int32)
      · rw [if_pos q2]
        rw [show (100000 : Int32) = nI 100000 from rfl, sLe hs (by decide)] at q2
        have ok : A.T.kd f = 1 ∧ s ≤ 100000 := ⟨q0, by omega⟩
        rw [if_neg (not_not_intro ok)]
        refine rsv_s (n := 6) hF hc hfi hA c htk (by decide) (K := fun g => (Fil_resize FU (nI f) (nI s) g).bind fun p4 => some (0, (0 : Int32), p4)) (fun w PP' ch' w1 w2 w3 w4 w5 w6 w7 => ?_)
        obtain ⟨B, eB⟩ : ∃ B, B = rsvB 6 A := ⟨_, rfl⟩
        have htB : B.tk ≤ 3000 := by
          rw [eB]; exact Nat.le_trans rsvB_tk (show A.tk + 1 ≤ 3000 by omega)
        rw [← eB] at w1 w2 w3 w4 w7 ⊢
        have hu := w3.u162
        have hse := w3.se32 htB
        have hkc := w3.kc.2
        have hrb := w4.rb
        refine (resize_s hF w3.nw (by rw [w7]; exact q0) ok.2 (by omega) hse (by omega)).bd ?_
        rintro _ ⟨x, ch1, rfl, x1, x2, x3, x4, x5⟩
        exact Ev.ret ⟨x, rfl, FI.mk (w1.act' x2 x1) w2 (w3.act' x1 x2 (by omega) (by omega) x3 (fun g q => q))⟩
      · rw [if_neg q2]
        rw [show (100000 : Int32) = nI 100000 from rfl, sLe hs (by decide)] at q2
        exact bad (fun w => by omega)
    · rw [if_neg q0, if_neg (show ¬ (1 : Nat) = 0 by decide)]
      exact bad (fun w => q0 w.1)
  · rw [pwrA_no c]
    unfold FF_truncate
    rw [pwr_no FU h c, Option.bind_some, if_neg (show ¬ (2 : Nat) = 0 by decide)]
    exact Ans.no h 2
theorem cutA_y {A : AB} (h : A.ct = 1) (k : ANS) : cutA A k = (3, 0, A.off) := if_pos h
theorem cutA_n {A : AB} (h : A.ct ≠ 1) (k : ANS) : cutA A k = k := if_neg h
theorem cl_fsync {FU : Nat} (hF : 140000 < FU) {z : NSt} {A : AB} (h : FI z A) (hA : AI A 0) (htk : A.tk ≤ 1990) {f : Nat} (hf : f < 2 ^ 32) : Ans (FF_fsync FU (nI f) (up z)) (fsyncA f A) := by
  unfold fsyncA
  by_cases c : A.dv = 2
  · rw [pwrA_yes c]
    obtain ⟨hc, PP, ch, hfi⟩ := h.on c
    have nw := hfi.nw
    unfold FF_fsync
    rw [pwr_yes FU hc c, Option.bind_some, if_pos (show (0 : Nat) = 0 from rfl), file_s FU nw hf, Option.bind_some]
    by_cases q0 : A.T.kd f = 1
    · rw [if_pos q0, if_pos (show (0 : Nat) = 0 from rfl), if_neg (not_not_intro q0)]
      refine rsv_s (n := 1) hF hc hfi hA c (by omega) (by decide) (K := fun g => (Tab_isStirred FU (nI f) g).bind fun v4 => (if v4 = 0 then (FF_failAtCut FU (0 : Int32) g).bind fun p5 => if p5.1 = 0 then (Fil_commitAlone FU (nI f) p5.2.2).bind fun p6 => some (0, (0 : Int32), p6) else some (p5.1, (0 : Int32), p5.2.2) else (FF_failAtCut FU (1 : Int32) g).bind fun p7 => if p7.1 = 0 then (Chk_take FU p7.2.2).bind fun p8 => some (0, (1 : Int32), p8) else some (p7.1, (0 : Int32), p7.2.2))) (fun w PP' ch' w1 w2 w3 w4 w5 w6 w7 => ?_)
      obtain ⟨B, eB⟩ : ∃ B, B = rsvB 1 A := ⟨_, rfl⟩
      have htB : B.tk ≤ 2000 := by
        rw [eB]; exact Nat.le_trans rsvB_tk (show A.tk + 1 ≤ 2000 by omega)
      rw [← eB] at w1 w2 w3 w4 w7 ⊢
      have kf : B.T.kd f = 1 := by rw [w7]; exact q0
      obtain ⟨g1, g2, -⟩ := w3.nw.tok.rng f (by omega)
      have hu := w3.u162
      have hse := w3.se32 (show B.tk ≤ 3000 by omega)
      have est := w3.st f kf
      show Ev ((Tab_isStirred FU (nI f) (up w)).bind _) _
      rw [Tab_isStirred_z FU w (by omega) (by rw [est]; split <;> omega), Option.bind_some, if_pos (show 1 ≤ f ∧ f ≤ 250 from ⟨g1, g2⟩), est]
      by_cases r : B.rn f = true
      · rw [if_pos r, if_pos r, if_neg (show ¬ nI 1 = (0 : Int32) by decide)]
        refine (failAtCut_s hF w1 w3 htB (p := 1) (Nat.le_refl _)).bd ?_
        rintro r (⟨k0, rfl⟩ | ⟨k1, y, rfl, y1, y2⟩)
        · rw [if_pos (show (0 : Nat) = 0 from rfl), cutA_n k0]
          refine (ckpt_s hF w1 w3 w4 htB).bd ?_
          rintro _ ⟨y, rfl, y1, y2, -, -⟩
          exact Ev.ret ⟨y, rfl, FI.mk y1 w2 y2⟩
        · rw [if_neg (show ¬ (3 : Nat) = 0 by decide), cutA_y k1]
          exact Ev.ret ⟨y, rfl, y1⟩
      · rw [if_neg r, if_neg r, if_pos i00]
        refine (failAtCut_s hF w1 w3 htB (p := 0) (Nat.zero_le _)).bd ?_
        rintro r' (⟨k0, rfl⟩ | ⟨k1, y, rfl, y1, y2⟩)
        · rw [if_pos (show (0 : Nat) = 0 from rfl), cutA_n k0]
          have rf : B.rn f = false := by
            cases q : B.rn f
            · rfl
            · exact absurd q r
          obtain ⟨o1, o2⟩ := w4.fk f kf rf
          refine (commitAlone_s hF w3.nw kf o1 o2 (by omega) hse).bd ?_
          rintro _ ⟨y, b, rfl, y1, y2, y3, y4, y5⟩
          have eR : ((B.w_S (va_up B.S f true)).w_F (va_up B.F f (B.T.fil f))).R = B.R.wFil (va_up B.R.fil f (B.T.fil f)) := by
            have : (fun i => if (va_up B.S f true) i = true then (va_up B.F f (B.T.fil f)) i else B.O.fil i) = va_up B.R.fil f (B.T.fil f) := by
              funext i
              by_cases ci : i = f
              · rw [ci, va_up_self, va_up_self, va_up_self, if_pos rfl]
              · rw [va_up_ne _ _ ci, va_up_ne _ _ ci, va_up_ne _ _ ci]
                rfl
            show B.O.wFil (fun i => if (va_up B.S f true) i = true then (va_up B.F f (B.T.fil f)) i else B.O.fil i) = _
            rw [this]
            rfl
          have eS : (fun o => (B.S o || decide (f = o))) = va_up B.S f true := by
            funext o
            by_cases co : o = f
            · rw [co, va_up_self, decide_eq_true rfl, Bool.or_true]
            · rw [va_up_ne _ _ co, decide_eq_false (Ne.symm co), Bool.or_false]
          have hu2 := w3.uz
          obtain ⟨k1, k2⟩ := w3.kc
          have e : ∀ k, 16 ≤ k ∨ k = 11 ∨ k = 6 → y.1 k = w.1 k := fun k hk => y2.1 k (by omega) (by omega) (by omega) (by omega) (by omega) (by omega) (by omega) (by omega)
          have y1' : NW y B.T ((B.w_S (va_up B.S f true)).w_F (va_up B.F f (B.T.fil f))).R (B.tk, va_up B.S f true) PP' (ch' ++ [b]) := by
            rw [eR, ← eS]
            exact y1
          refine Ev.ret ⟨y, rfl, FI.mk ((w1.frame (fun k hk => y2.1 k (by omega) (by omega) (by omega) (by omega) (by omega) (by omega) (by omega) (by omega)) (fun a ha => y2.2 a (by omega)) y1.fic).to rfl rfl rfl rfl rfl rfl rfl) w2 (PP := PP') (ch := ch' ++ [b]) ⟨y1', w3.pi, fun g hg => by rw [y3]; exact w3.st g hg, ?_, ?_, ?_, ?_, ?_, ⟨?_, ?_⟩, ?_, ?_, w3.u28⟩⟩
          · rw [e 16 (by omega)]; exact w3.s16
          · rw [e 17 (by omega)]; exact w3.s17
          · rw [e 18 (by omega)]; exact w3.s18
          · rw [e 19 (by omega)]; exact w3.s19
          · show B.rm - B.us - B.fr + 162 + 0 ≤ Uz y
            omega
          · show KC y + 0 ≤ B.us + B.fr
            omega
          · show KC y + 0 ≤ B.rm
            omega
          · rw [e 11 (by omega)]; exact w3.se
          · rw [e 6 (by omega)]; exact w3.rs
        · rw [if_neg (show ¬ (3 : Nat) = 0 by decide), cutA_y k1]
          exact Ev.ret ⟨y, rfl, y1⟩
    · rw [if_neg q0, if_neg (show ¬ (1 : Nat) = 0 by decide), if_pos q0]
      exact Ev.ret ⟨_, rfl, FI.mk hc c hfi⟩
  · rw [pwrA_no c]
    unfold FF_fsync
    rw [pwr_no FU h c, Option.bind_some, if_neg (show ¬ (2 : Nat) = 0 by decide)]
    exact Ans.no h 2
theorem cl_sync {FU : Nat} (hF : 140000 < FU) {z : NSt} {A : AB} (h : FI z A) (hA : AI A 0) (htk : A.tk ≤ 2000) : Ans (FF_sync FU (up z)) (syncA A) := by
  unfold syncA
  by_cases c : A.dv = 2
  · rw [pwrA_yes c]
    obtain ⟨hc, PP, ch, hfi⟩ := h.on c
    unfold FF_sync
    rw [pwr_yes FU hc c, Option.bind_some, if_pos (show (0 : Nat) = 0 from rfl)]
    refine (failAtCut_s hF hc hfi htk (p := 1) (Nat.le_refl _)).bd ?_
    rintro r (⟨k0, rfl⟩ | ⟨k1, y, rfl, y1, y2⟩)
    · rw [if_pos (show (0 : Nat) = 0 from rfl), cutA_n k0]
      refine (ckpt_s hF hc hfi hA htk).bd ?_
      rintro _ ⟨y, rfl, y1, y2, -, -⟩
      unfold Chk_taken
      rw [Option.bind_some, up1, y2.s19]
      exact Ev.ret ⟨y, rfl, FI.mk y1 c y2⟩
    · rw [if_neg (show ¬ (3 : Nat) = 0 by decide), cutA_y k1]
      exact Ev.ret ⟨y, rfl, y1⟩
  · rw [pwrA_no c]
    unfold FF_sync
    rw [pwr_no FU h c, Option.bind_some, if_neg (show ¬ (2 : Nat) = 0 by decide)]
    exact Ans.no h 2
