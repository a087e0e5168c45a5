/-! bringBack as a whole -/
theorem tree_keep {W W' : Nat → Nat → Nat} {P u : Nat → Nat} {R : TRE} (hd : TR P (BPL W P) u) (ht : TOK W P R) (hl : LED W P R) (hn : NUM W P) (hW : ∀ b, u b ≠ 0 → W' b = W b) : TR P (BPL W' P) u ∧ TOK W' P R ∧ LED W' P R ∧ NUM W' P := by
  have p0 : P 0 = 0 := Classical.byContradiction (fun q => by
    have := (hn 0 q).1
    omega)
  have hP : ∀ n, P n ≠ 0 → W' (P n) = W (P n) := fun n q => hW _ (by rw [(hd.2.1 _).mpr ⟨q, n, rfl⟩]; decide)
  have hB : ∀ i k, BPL W P i k ≠ 0 → W' (BPL W P i k) = W (BPL W P i k) := fun i k q => hW _ (by rw [(hd.2.2.1 _).mpr ⟨q, i, k, rfl⟩]; decide)
  obtain ⟨t1, t2⟩ := ht.keep (W' := W') p0 hP hB
  have e : BPL W' P = BPL W P := by
    funext i k
    exact t2 i k
  refine ⟨by rw [e]; exact hd, t1, fun n n1 n2 => ?_, fun n q => by rw [hP n q]; exact hn n q⟩
  obtain ⟨i, j, l1, l2, l3⟩ := hl n n1 n2
  obtain ⟨q1, q2, q3⟩ := ht.rng i (by omega)
  have hpi : P i ≠ 0 := fun w' => by
    have := (ht.ids i q1 q2).pl.mp w'
    omega
  refine ⟨i, j, l1, l2, ?_⟩
  rw [(ht.same (W' := W') hP q1 q2 hpi).nb (by rw [((ht.ids i q1 q2).kd (by omega)).1]; omega), l3]
theorem fm_lt (W : Nat → Nat → Nat) : ∀ (l : List Nat) (i : Nat) (m : Nat → Nat), i + l.length < 2 ^ 31 → (∀ o, m o < 2 ^ 32) → ∀ o, fm W m l i o < 2 ^ 32 := by
  intro l
  induction l with
  | nil => intro i m _ h; exact h
  | cons b l ih =>
    intro i m h1 h
    have h1 : i + (l.length + 1) < 2 ^ 31 := h1
    refine ih (i + 1) _ (by omega) (fun o => ?_)
    split
    · unfold va_up
      split
      · omega
      · exact h o
    · exact h o
theorem fm_31 (W : Nat → Nat → Nat) : ∀ (l : List Nat) (i : Nat) (m : Nat → Nat), i + l.length < 2 ^ 31 → (∀ o, o ≤ 250 → m o < 2 ^ 31) → ∀ o, o ≤ 250 → fm W m l i o < 2 ^ 31 := by
  intro l
  induction l with
  | nil => intro i m _ h; exact h
  | cons b l ih =>
    intro i m h1 h
    have h1 : i + (l.length + 1) < 2 ^ 31 := h1
    refine ih (i + 1) _ (by omega) (fun o ho => ?_)
    split
    · unfold va_up
      split
      · omega
      · exact h o ho
    · exact h o ho
theorem claimAll_s {FU : Nat} (hF : 140000 < FU) {W : Nat → Nat → Nat} {q : Nat → Nat} {R : TRE} (hr : RFI W q R) (hsup : W 0 0 ≠ 1 ∧ W 0 0 < 2 ^ 32) {y : NSt} (hV : zV y = W) (hw : ∀ i, y.2 4 i < 2 ^ 32) (h6 : y.2 6 = q) (h9 : ∀ i, y.2 9 i = 0) (h10 : ∀ i, i < 128 → y.2 10 i = 0 ∧ y.2 11 i = 0) : Ev (Chk_claimAll FU (up y)) fun r => ∃ u, r = up u ∧ CLQ u W q R 251 ∧ u.1 = y.1 ∧ (∀ c, c ≠ 6 → c ≠ 7 → c ≠ 9 → c ≠ 10 → c ≠ 11 → u.2 c = y.2 c) ∧ ∀ n, 2048 ≤ n → u.2 7 n = y.2 7 n := by
  have q0 : q 0 = 0 := Classical.byContradiction (fun w => by
    have := (hr.qr 0 w).2.2.1
    omega)
  unfold Chk_claimAll Tab_setAside
  rw [show (0 : Int32) = nI 0 from rfl, show (2048 : Int32) = nI 2048 from rfl, show (251 : Int32) = nI 251 from rfl, cpy_z y 6 7 (by decide) (by decide) (by decide) (by decide), Option.bind_some, fill1_z 6 0 _ (by decide) (by decide) (by omega), Option.bind_some, Option.bind_some]
  obtain ⟨z, ez⟩ : ∃ z, z = zR (zR y 7 (va_cpy (y.2 6) (y.2 7) 0 0 2048)) 6 (flN ((zR y 7 (va_cpy (y.2 6) (y.2 7) 0 0 2048)).2 6) 251 2048 0) := ⟨_, rfl⟩
  rw [← ez]
  have z1 : z.1 = y.1 := by rw [ez]; rfl
  have za : ∀ c, c ≠ 6 → c ≠ 7 → z.2 c = y.2 c := fun c c6 c7 => by rw [ez, zR2, if_neg c6, zR2, if_neg c7]
  have z7 : ∀ n, z.2 7 n = if n < 2048 then y.2 6 n else y.2 7 n := fun n => by
    rw [ez, zR2, if_neg (by decide), zR2, if_pos rfl]
    unfold va_cpy
    by_cases c : n < 2048
    · rw [if_pos ⟨by omega, by omega⟩, if_pos c]
      exact congrArg (y.2 6) (by omega)
    · rw [if_neg (by omega), if_neg c]
  have z6 : ∀ n, z.2 6 n = if 251 ≤ n ∧ n < 2048 then 0 else y.2 6 n := fun n => by
    rw [ez, zR2, if_pos rfl, zR2, if_neg (by decide)]
    rfl
  have hNI : ∀ n, ¬ NI W q R 1 n := fun n w => by
    rcases w with w | ⟨i, j, a1, a2, -⟩
    · omega
    · have := (hr.tok.rng i (by omega)).1
      omega
  have hcl : CLQ z W q R 1 := by
    refine ⟨⟨?_, ?_, fun b => ?_, fun b => ?_, fun b => ?_, fun s hs => ?_⟩, fun n hn => ?_, fun n n1 n2 => ?_, fun n _ n2 => absurd n2 (hNI n), fun n hn => ?_⟩
    · rw [← hV]
      exact funext (zV_congr (za 4 (by decide) (by decide)))
    · rw [za 4 (by decide) (by decide)]; exact hw
    · rw [za 9 (by decide) (by decide), h9]
      exact ⟨fun w => by omega, fun ⟨_, n, w, _⟩ => absurd w (hNI n)⟩
    · rw [za 9 (by decide) (by decide), h9]
      refine ⟨fun w => by omega, fun ⟨b0, i, k, w, e⟩ => ?_⟩
      rw [show i = 0 by omega, BPL_0 (Or.inl q0)] at e
      exact absurd e.symm b0
    · rw [za 9 (by decide) (by decide), h9]; decide
    · rw [za 10 (by decide) (by decide), za 11 (by decide) (by decide), za 9 (by decide) (by decide), (h10 s hs).1, (h10 s hs).2]
      unfold cntF
      rw [sm_zero (fun j _ => by rw [h9, if_neg (by decide)]), sm_zero (fun j _ => by rw [h9, if_neg (by decide)])]
      exact ⟨rfl, rfl⟩
    · rw [z6, if_neg (by omega), h6]
    · exfalso
      rw [z6] at n2
      by_cases c : n < 2048
      · rw [if_pos ⟨by omega, c⟩] at n2; exact n2 rfl
      · rw [if_neg (by omega), h6] at n2
        have := (hr.qr n n2).2.2.2.1
        omega
    · rw [z7, if_pos hn, h6]
  refine (claimAll_b hF hr hsup z 250 1 FU z (by omega) (by omega) (by omega) hcl (FCL.rf z)).mono ?_
  rintro _ ⟨u, rfl, u1, u2⟩
  refine ⟨u, rfl, u1, by rw [u2.1, z1], fun c c6 c7 c9 c10 c11 => by rw [u2.2 c c6 c9 c10 c11, za c c6 c7], fun n hn => ?_⟩
  rw [u2.2 7 (by decide) (by decide) (by decide) (by decide), z7, if_neg (by omega)]
theorem bringBack_s {FU : Nat} (hF : 140000 < FU) {z x : NSt} {T R : TRE} {tk : TKS} {PP : Nat → Nat} {ch : List Nat} (h : OFF z x T R tk PP ch) (hse : x.1 11 < 2 ^ 31) (h7 : 2 ≤ x.1 7) :
    Ev (Chk_bringBack FU (up z)) fun r => ∃ y, r = (nI (fcn (zV x) (fun _ => 0) ch), up y) ∧ (LG y ∧ TR (y.2 6) (BPL (zV y) (y.2 6)) (y.2 9) ∧ NUM (zV y) (y.2 6) ∧ WD y) ∧ TOK (zV y) (y.2 6) R ∧ LED (zV y) (y.2 6) R ∧ zV y (pkB (y.1 11)) 0 ≤ y.1 11 ∧ (zV y 0 0 = y.1 6 ∧ zV y 0 1 ≤ zV y 0 0 ∧ y.1 16 = 16 * (zV y 0 0 - zV y 0 1)) ∧ y.1 11 = x.1 11 ∧ y.1 19 = tk.1 ∧ y.1 6 = x.1 6 ∧ y.1 16 = x.1 16 ∧ 16 * x.1 7 ≤ Uz y ∧ (∀ k, k ≤ 5 ∨ 20 ≤ k → y.1 k = z.1 k) ∧ ∀ a, a ≤ 3 → y.2 a = z.2 a := by
  obtain ⟨s, es⟩ : ∃ s, s = x.1 11 := ⟨_, rfl⟩
  have hk := h.nw.wk
  have hl := hk.lg
  have hS := hl.1.1
  have S1 : 48 ≤ x.1 6 := hS.1
  have S2 : x.1 6 ≤ 128 := hS.2.1
  have hpk := hk.pk
  have hB := pkB_le s
  have hoB : ∀ i, i < 34 → ¬ (pkB (x.1 11 + 1) ≤ pkB s + i ∧ pkB s + i < pkB (x.1 11 + 1) + 34) := fun i hi => by
    rw [← es]
    unfold pkB
    omega
  have hVp : ∀ i, i < 34 → zV z (pkB s + i) = zV x (pkB s + i) := fun i hi => (h.dv _ (hoB i hi)).1
  have hVp0 : zV z (pkB s) = zV x (pkB s) := hVp 0 (by decide)
  have hV0 : zV z 0 = zV x 0 := (h.dv 0 (fun w => by have := pkB_le (x.1 11 + 1); omega)).1
  have hd69 : ∀ b, 69 ≤ b → zV z b = zV x b ∧ z.2 5 b = x.2 5 b := fun b hb => h.dv b (fun w => by have := pkB_le (x.1 11 + 1); omega)
  have hw4 : ∀ i, z.2 4 i < 2 ^ 32 := h.wd 4 (by decide) (by decide)
  have hsu := hpk.su
  rw [← hV0] at hsu
  obtain ⟨su1, su2, su3⟩ := hsu
  have hw00 : zW z 0 0 = x.1 6 := by rw [← zV_W (by decide)]; exact su1
  have hw01 : zW z 0 1 = zV z 0 1 := by rw [zV_W (by decide)]
  unfold Chk_bringBack
  rw [Chk_readSuper_z FU (by rw [hw00]; exact hS.2.1) (by rw [hw00, hw01, ← su1]; exact su2), Option.bind_some, hw00, hw01]
  rw [su1] at su3
  rw [← su3]
  obtain ⟨z1, e1⟩ : ∃ z1, z1 = zI (zI z 6 (x.1 6)) 16 (x.1 16) := ⟨_, rfl⟩
  rw [← e1]
  have z12 : z1.2 = z.2 := by rw [e1]; rfl
  have hV1 : zV z1 = zV z := funext (zV_congr (by rw [z12]))
  have hmax : (if nI (wsN z1 0) < nI (wsN z1 1) then nI (wsN z1 1) else nI (wsN z1 0)) = nI s := by
    refine ws_max (by omega) ?_ ?_ ?_
    · rw [hV1, hVp0, es]; exact hpk.h0
    · rw [hV1, hVp 33 (by decide), es]; exact hpk.h1
    · rw [hV1, es]; exact h.ho
  rw [show (0 : Int32) = nI 0 from rfl, wholeSerial_z FU (by rw [z12]; exact hw4) (by decide), Option.bind_some, show (1 : Int32) = nI 1 from rfl, wholeSerial_z FU (by rw [z12]; exact hw4) (by decide), Option.bind_some, hmax, beginOfPack_z FU _ (by omega), Option.bind_some]
  unfold Log_setSerial
  simp (disch := omega) only [lit_nI, nI_ltI, nI_leI, nI_eq, nI_add, pk_sub, pk_div, nI_64, rdA_z, wrA_z, cpy_z, up1, up_I, nz_n0, nz_n1, zI1, zI2, zR1, zR2, zA1, zA2, Option.bind_some, nx_eq, if_true, if_false, if_pos, if_neg]
  rw [Dev_word_e FU (zI z1 11 s) (by omega) (by decide), Option.bind_some]
  have etk : zW (zI z1 11 s) (pkB s) 1 = tk.1 := by
    have : zW (zI z1 11 s) (pkB s) 1 = zV z (pkB s) 1 := by
      rw [zV_W (by decide)]
      unfold zW
      rw [zI2, z12]
    rw [this, hVp0, es]; exact hpk.ht
  rw [etk]
  simp (disch := omega) only [lit_nI, nI_ltI, nI_leI, nI_eq, nI_add, pk_sub, pk_div, nI_64, rdA_z, wrA_z, cpy_z, up1, up_I, nz_n0, nz_n1, zI1, zI2, zR1, zR2, zA1, zA2, Option.bind_some, nx_eq, if_true, if_false, if_pos, if_neg]
  obtain ⟨z2, e2⟩ : ∃ z2, z2 = zI (zI z1 11 s) 19 tk.1 := ⟨_, rfl⟩
  rw [← e2]
  have z22 : z2.2 = z.2 := by rw [e2, zI2, zI2, z12]
  have hV2 : zV z2 = zV z := funext (zV_congr (by rw [z22]))
  have z2s : ∀ k, z2.1 k = if k = 19 then tk.1 else if k = 11 then s else if k = 16 then x.1 16 else if k = 6 then x.1 6 else z.1 k := fun k => by
    rw [e2, zI1, zI1, e1, zI1, zI1]
  have hPP : ∀ n, PP n ≠ 0 → 1 ≤ n ∧ n < 2048 := fun n q => by
    have := hk.co.pw n q
    exact ⟨this.2.2.2.1, this.2.2.2.2.1⟩
  refine tabRead FU (z := z2) (B := pkB s) (PP := PP) (by omega) (fun n n1 n2 => ?_) hPP (by rw [z22]; exact hw4) _ (fun y y1 ya y6 => ?_) 2047 1 FU z2 (by omega) (by omega) (by omega) rfl (fun _ _ => rfl) ?_
  · rw [hV2, Nat.add_assoc, hVp _ (by omega), ← Nat.add_assoc, es]
    exact hpk.hp n n1 n2
  rotate_left
  · rw [z22]
    funext n
    rw [h.t6]
    by_cases c : n < 1
    · rw [if_pos c]
      refine Classical.byContradiction (fun w => ?_)
      have := hPP n (Ne.symm w)
      omega
    · rw [if_neg c]
  have hVy : zV y = zV z := by rw [← hV2]; exact funext (zV_congr (ya 4 (by decide)))
  unfold Chk_bringBack_b46
  rw [show (2048 : Int32) = nI 2048 from rfl, if_pos (nI_le (Nat.le_refl _) (by decide)), show (2 : Int32) = nI 2 from rfl, Dev_word_e FU y (by omega) (by decide), Option.bind_some, ← zV_W (by decide), hVy, hVp0]
  -- the chain
  have hlen : ch.length ≤ 2116 := by
    have := nodup_len (n := 69 + 16 * x.1 6) hk.co.nd (fun b hb => (hk.co.el b hb).2.2.1)
    have h9 := nodup_len (n := 2048) (l := ch.map (fun b => b - 69)) (by
      refine List.Pairwise.map _ ?_ (List.Pairwise.and_mem.mp hk.co.nd)
      rintro a b ⟨ha, hb, hne⟩ e
      have := (hk.co.el a ha).2.1
      have := (hk.co.el b hb).2.1
      exact hne (by omega)) (fun b hb => by
      obtain ⟨c, hc, rfl⟩ := List.mem_map.mp hb
      have := (hk.co.el c hc).2.2.1
      have := hS.2.1
      omega)
    rw [List.length_map] at h9
    omega
  unfold Chk_findMarks
  rw [show (0 : Int32) = nI 0 from rfl, fill0_z 23 0 y (show 251 < FU by omega), Option.bind_some]
  obtain ⟨y2, ey2⟩ : ∃ y2, y2 = zR y 23 (flN (y.2 23) 0 (lenF 23) 0) := ⟨_, rfl⟩
  have y21 : y2.1 = y.1 := by rw [ey2]; rfl
  have y2a : ∀ a, a ≠ 23 → y2.2 a = y.2 a := fun a ha => by rw [ey2, zR2, if_neg ha]
  have y223 : ∀ o, o ≤ 250 → y2.2 23 o = 0 := fun o ho => by
    rw [ey2, zR2, if_pos rfl]
    exact if_pos ⟨by omega, show o < 251 by omega⟩
  have hVy2 : zV y2 = zV z := by rw [← hVy]; exact funext (zV_congr (y2a 4 (by decide)))
  have hw4y : ∀ i, y2.2 4 i < 2 ^ 32 := by rw [y2a 4 (by decide), ya 4 (by decide), z22]; exact hw4
  have hrc2 : ∀ u : NSt, zV u = zV z → u.1 11 = s → RCH u ch (zV x (pkB s) 2) := fun u hu h11 => by
    refine rch_of hk.co hl (fun b hb => by rw [hu]; exact (hd69 b hb).1) (by rw [h11, es]) ch _ (fun b hb => hb) ?_
    rw [es]; exact hk.co.lk
  rw [← ey2]
  refine (findMarks_b FU ch _ 1 FU 0 y2 (by omega) (by omega) (by omega) hw4y (fun o ho => by rw [y223 o ho]; decide) (hrc2 y2 hVy2 (by rw [y21, y1, z2s]; rfl))).bd ?_
  rintro _ ⟨y3, rfl, y31, y3a, y323⟩
  have hVy3 : zV y3 = zV z := by rw [← hVy2]; exact funext (zV_congr (y3a 4 (by decide)))
  have hwch : ∀ c, c ∈ ch → zV z c = zV x c := fun c hc => (hd69 c (hk.co.el c hc).2.1).1
  have hcount : fcn (zV y2) (y2.2 23) ch = fcn (zV x) (fun _ => 0) ch := by
    unfold fcn
    refine sm_congr (fun o ho => ?_)
    rw [y223 _ (by omega), hVy2, hasM_congr hwch]
  rw [hcount, Nat.zero_add]
  have hokm := (fm_ok (zV y2) ch 1 (y2.2 23) (fun b hb => by rw [hVy2, hwch b hb]; exact (hk.co.el b hb).2.2.2.2.2.1) (fun o ho => by rw [y223 o ho]; decide)).1
  show Ev ((Dev_word FU (nI (pkB s)) (nI 2) (up y3)).bind _) _
  rw [Dev_word_e FU y3 (by omega) (by decide), Option.bind_some, ← zV_W (by decide), hVy3, hVp0]
  unfold Chk_bringForward
  rw [show (1 : Int32) = nI 1 from rfl]
  refine (bringForward_b FU ch _ 1 FU y3 (by omega) (by omega) (by omega) (by rw [y3a 4 (by decide)]; exact hw4y) (fun o ho => by rw [y323]; exact fm_31 _ ch 1 _ (by omega) (fun o ho => by rw [y223 o ho]; decide) o ho) (hrc2 y3 hVy3 (by rw [y31, y21, y1, z2s]; rfl)) (by rw [hVy3, y323, ← hVy2]; exact hokm)).bd ?_
  rintro _ ⟨y4, rfl, y41, y4a, y46⟩
  have hVy4 : zV y4 = zV z := by rw [← hVy3]; exact funext (zV_congr (y4a 4 (by decide)))
  have y46' : y4.2 6 = rP x PP ch := by
    rw [y46, y3a 6 (by decide), y2a 6 (by decide), y6, hVy3]
    exact fwd_congr hwch PP
  have y4o : ∀ c, c ≠ 6 → c ≠ 23 → y4.2 c = z.2 c := fun c c6 c23 => by rw [y4a c c6, y3a c c23, y2a c c23, ya c c6, z22]
  have y4s : y4.1 = z2.1 := by rw [y41, y31, y21, y1]
  -- what mounting finds
  have hnp : ∀ n, rP x PP ch n ≠ 0 → rP x PP ch n ∈ ch ∨ ∃ m, PP m = rP x PP ch n ∧ rP x PP ch n ≠ 0 := fun n q => by
    rcases fwd_val (zV x) n ch PP with e | ⟨e, -⟩
    · exact Or.inr ⟨n, e.symm, q⟩
    · exact Or.inl e
  obtain ⟨t1, t2⟩ := hk.rc.tok.keep (W' := zV z) hk.co.rp0 (fun n q => (hd69 _ (hk.co.rp n q).2.1).1) (fun i k q => (hd69 _ (hk.rc.wr i k q).2.1).1)
  have hr : RFI (zV z) (rP x PP ch) R := by
    refine ⟨t1, fun n q => ?_, fun i k q => ?_, fun i k i' k' q e => ?_, fun n i k q => ?_⟩
    · obtain ⟨a1, a2, a3, a4, a5, a6⟩ := hk.co.rp n q
      exact ⟨a2, by omega, a4, a5, by rw [(hd69 _ a2).1]; exact a6⟩
    · rw [t2] at q ⊢
      have := hk.rc.wr i k q
      exact ⟨this.2.1, by omega⟩
    · rw [t2] at q e
      rw [t2] at e
      exact hk.rc.inj i k i' k' q e
    · rw [t2]
      exact hk.rc.nd _ (hnp n q) i k
  refine (claimAll_s hF hr (by rw [su1]; omega) hVy4 (by rw [y4o 4 (by decide) (by decide)]; exact hw4) y46' (fun i => by rw [y4o 9 (by decide) (by decide)]; exact h.t9 i) (fun i hi => by rw [y4o 10 (by decide) (by decide), y4o 11 (by decide) (by decide)]; exact h.t10 i hi)).bd ?_
  rintro _ ⟨u, rfl, hcq, u1, ua, u7⟩
  obtain ⟨d1, d2, d3, d4, d5, d6⟩ := hcq.done hr
  have uo : ∀ c, c ≠ 6 → c ≠ 7 → c ≠ 9 → c ≠ 10 → c ≠ 11 → c ≠ 23 → u.2 c = z.2 c := fun c c6 c7 c9 c10 c11 c23 => by rw [ua c c6 c7 c9 c10 c11, y4o c c6 c23]
  have us : ∀ k, u.1 k = if k = 19 then tk.1 else if k = 11 then s else if k = 16 then x.1 16 else if k = 6 then x.1 6 else z.1 k := fun k => by rw [u1, y4s, z2s]
  have us6 : u.1 6 = x.1 6 := by rw [us]; rfl
  have us8 : u.1 8 = 0 := by rw [us]; exact h.sc 8 (by decide) (by decide)
  have us9 : u.1 9 = 0 := by rw [us]; exact h.sc 9 (by decide) (by decide)
  have us10 : u.1 10 = 0 := by rw [us]; exact h.sc 10 (by decide) (by decide)
  have hVu : zV u = zV z := hcq.cl.vw
  have use : ∀ b, u.2 9 b ≠ 0 → x.2 5 b = 1 ∧ 69 ≤ b ∧ b < 69 + 16 * x.1 6 ∧ ((u.2 9 b = 1 ∧ (b ∈ ch ∨ ∃ m, PP m = b ∧ b ≠ 0)) ∨ (u.2 9 b = 2 ∧ b ≠ 0 ∧ ∃ i k, BPL (zV x) (rP x PP ch) i k = b)) := fun b hb => by
    have := hcq.cl.ub b
    by_cases c : u.2 9 b = 1
    · obtain ⟨b0, n, -, e⟩ := (hcq.cl.u1 b).mp c
      rw [← e] at b0
      have hp := hk.co.rp n b0
      have hm := hnp n b0
      rw [e] at hp hm
      exact ⟨hp.1, hp.2.1, hp.2.2.1, Or.inl ⟨c, hm⟩⟩
    · have c2 : u.2 9 b = 2 := by omega
      obtain ⟨b0, i, k, -, e⟩ := (hcq.cl.u2 b).mp c2
      rw [t2] at e
      have hp := hk.rc.wr i k (by rw [e]; exact b0)
      rw [e] at hp
      exact ⟨hp.1, hp.2.1, hp.2.2, Or.inr ⟨c2, b0, i, k, e⟩⟩
  have hpos : ∀ s k, s < 128 → k = 1 ∨ k = 2 → cntF (u.2 9) k s ≠ 0 → ∃ b, 69 ≤ b ∧ sg b = s ∧ u.2 9 b = k := fun s k _ _ hc => by
    unfold cntF at hc
    obtain ⟨j, j1, j2⟩ := sm_ex (Nat.pos_of_ne_zero hc)
    refine ⟨69 + 16 * s + j, by omega, sg_of j1, ?_⟩
    refine Classical.byContradiction (fun w => j2 (if_neg w))
  have hL0 : LG0 u := by
    refine ⟨⟨by rw [us6]; exact hS.1, by rw [us6]; exact hS.2.1, by omega⟩, fun b hb => ?_, hcq.cl.uc, ⟨fun t ht => ?_, ?_⟩, ⟨fun b => ?_, fun b hb i hi => ?_⟩, fun t ht => ?_, ?_⟩
    · obtain ⟨a1, a2, a3, a4⟩ := use b hb
      refine ⟨?_, a2, by rw [us6]; exact a3, ?_⟩
      · rcases a4 with a4 | a4
        · exact Or.inl a4.1
        · exact Or.inr a4.1
      · rw [uo 5 (by decide) (by decide) (by decide) (by decide) (by decide) (by decide), (hd69 b a2).2]; exact a1
    · rw [uo 12 (by decide) (by decide) (by decide) (by decide) (by decide) (by decide), h.t12] at ht
      exact absurd rfl ht
    · rw [uo 12 (by decide) (by decide) (by decide) (by decide) (by decide) (by decide), us]
      have := h.sc 7 (by decide) (by decide)
      rw [sm_zero (fun i _ => h.t12 i)]
      exact this
    · rw [uo 5 (by decide) (by decide) (by decide) (by decide) (by decide) (by decide)]; exact h.lw.1 b
    · rw [uo 5 (by decide) (by decide) (by decide) (by decide) (by decide) (by decide)] at hb
      unfold zW
      rw [uo 4 (by decide) (by decide) (by decide) (by decide) (by decide) (by decide)]
      exact h.lw.2 b hb i hi
    · refine Classical.byContradiction (fun w => ?_)
      have hc := hcq.cl.uc t ht
      obtain ⟨b, b1, b2, b3⟩ := hpos t 1 ht (Or.inl rfl) (by omega)
      obtain ⟨d, c1, c2, c3⟩ := hpos t 2 ht (Or.inr rfl) (by omega)
      obtain ⟨-, -, -, a4⟩ := use b (by omega)
      obtain ⟨-, -, -, e4⟩ := use d (by omega)
      rcases a4 with a4 | a4
      · rcases e4 with e4 | ⟨-, d0, i, k, e⟩
        · omega
        · have := hk.rc.n3 b (Or.inl a4.2) i k (by rw [e]; exact d0)
          rw [e] at this
          exact this (by rw [b2, c2])
      · omega
    · rw [us]; exact h.z5
  have hdead : ∀ t, t < 128 → (∀ b, 69 ≤ b → sg b = t → u.2 9 b = 0) → deadB u t = true := fun t ht hb => by
    have hc := hcq.cl.uc t ht
    have c1 : cntF (u.2 9) 1 t = 0 := Classical.byContradiction (fun w => by
      obtain ⟨b, b1, b2, b3⟩ := hpos t 1 ht (Or.inl rfl) w
      have := hb b b1 b2
      omega)
    have c2 : cntF (u.2 9) 2 t = 0 := Classical.byContradiction (fun w => by
      obtain ⟨b, b1, b2, b3⟩ := hpos t 2 ht (Or.inr rfl) w
      have := hb b b1 b2
      omega)
    unfold deadB endB
    rw [hc.1, hc.2, c1, c2, us8, us9]
    rfl
  have hnd : ∀ b, u.2 9 b ≠ 0 → deadB u (sg b) = false := fun b hb => by
    obtain ⟨a1, a2, a3, a4⟩ := use b hb
    have hs := sg_lt' a2 a3
    have hc := hcq.cl.uc (sg b) (by omega)
    have hj : cntF (u.2 9) (u.2 9 b) (sg b) ≠ 0 := by
      unfold cntF
      have := sm_one (f := fun j => if u.2 9 (69 + 16 * sg b + j) = u.2 9 b then 1 else 0) (i := (b - 69) % 16) (n := 16) (Nat.mod_lt _ (by decide))
      have e : (if u.2 9 (69 + 16 * sg b + (b - 69) % 16) = u.2 9 b then 1 else 0) = 1 := by rw [sg_dec a2, if_pos rfl]
      have this : (if u.2 9 (69 + 16 * sg b + (b - 69) % 16) = u.2 9 b then 1 else 0) ≤ sm (fun j => if u.2 9 (69 + 16 * sg b + j) = u.2 9 b then 1 else 0) 16 := this
      omega
    unfold deadB
    rw [hc.1, hc.2]
    rcases a4 with a4 | a4
    · rw [a4.1] at hj
      rw [decide_eq_false hj]; rfl
    · rw [a4.1] at hj
      rw [decide_eq_false hj, Bool.and_false]; rfl
  refine bringFree_b FU hF hL0 (by omega) (by omega) (by rw [uo 4 (by decide) (by decide) (by decide) (by decide) (by decide) (by decide)]; exact hw4) (B := pkB s) (by omega) _ (fun v hv => ?_) (u.1 6) 0 FU u (by omega) (by have := hL0.1.2.1; omega) (FRD.zero hL0)
  obtain ⟨v0, ⟨vs, va⟩, v12, v5, vw⟩ := hv
  have hfree : x.1 7 ≤ v.1 7 := by
    rw [v0.2.2.2.1.2, hl.1.2.2.2.1.2]
    refine sm_le (fun t ht => ?_)
    by_cases c : x.2 12 t = 0
    · omega
    · obtain ⟨f1, f2, f3⟩ := hl.1.2.2.2.1.1 t c
      have hb := hpk.hb t f2 c
      rw [v12, if_pos, f1]
      · exact Nat.le_refl _
      · refine ⟨by rw [us6]; exact f2, ?_⟩
        unfold mtB
        rw [hVu, hVp0, es, hb, hdead t ht (fun b b1 b2 => Classical.byContradiction (fun w => by
          have a1 := (use b w).1
          rw [hl.fre c b1 b2] at a1
          exact absurd a1 (by decide)))]
        rfl
  refine (openEnds_s (by omega) v0 (by omega)).bd ?_
  rintro _ ⟨w, s1, s2, rfl, hy, ho⟩
  obtain ⟨-, -, -, -, -, -, -, -, os, oa, ou⟩ := ho
  have hVw : ∀ b, ¬ (69 ≤ b ∧ sg b < u.1 6 ∧ mtB u (pkB s) (sg b) = true) → zV w b = zV z b := fun b hb => by
    rw [← hVu]
    refine cutW_congr (fun i hi => ?_)
    rw [← (vw b hb).2 i hi]
    unfold zW
    rw [oa 4 (by decide)]
  have hVlo : ∀ b, b < 69 → zV w b = zV z b := fun b hb => hVw b (fun q => by omega)
  have hVus : ∀ b, u.2 9 b ≠ 0 → zV w b = zV z b := fun b hb => hVw b (fun q => by
    have := q.2.2
    unfold mtB at this
    rw [hnd b hb, Bool.and_false] at this
    exact absurd this (by decide))
  have w6 : w.2 6 = u.2 6 := by rw [oa 6 (by decide), va 6 (by decide) (by decide) (by decide)]
  have w9 : w.2 9 = u.2 9 := by rw [oa 9 (by decide), va 9 (by decide) (by decide) (by decide)]
  obtain ⟨k1, k2, k3, k4⟩ := tree_keep d1 d2 d3 d4 hVus
  have ws : ∀ k, k ≠ 7 → k ≠ 8 → k ≠ 9 → k ≠ 10 → w.1 k = if k = 19 then tk.1 else if k = 11 then s else if k = 16 then x.1 16 else if k = 6 then x.1 6 else z.1 k := fun k a b c d => by rw [os k a b c d, vs k a, us]
  have w11 : w.1 11 = s := by rw [ws 11 (by decide) (by decide) (by decide) (by decide)]; rfl
  have w16 : w.1 16 = x.1 16 := by rw [ws 16 (by decide) (by decide) (by decide) (by decide)]; rfl
  have w66 : w.1 6 = x.1 6 := by rw [ws 6 (by decide) (by decide) (by decide) (by decide)]; rfl
  have qb : ∀ n, rP x PP ch n < 2 ^ 32 := fun n => by
    by_cases c : rP x PP ch n = 0
    · rw [c]; decide
    · have := (hr.qr n c).2.1
      omega
  refine Ev.ret ⟨w, rfl, ⟨hy, by rw [w6, w9]; exact k1, by rw [w6]; exact k4, fun a a1 a2 i => ?_⟩, by rw [w6]; exact k2, by rw [w6]; exact k3, ?_, ?_, by rw [w11, es], ?_, w66, w16, by omega, fun k hk' => ?_, fun a ha => ?_⟩
  · by_cases c12 : a = 12
    · rw [c12]; exact hy.free1 i
    · rw [oa a c12]
      by_cases c4 : a = 4
      · rw [c4]
        have hi : i % 64 < 64 := Nat.mod_lt _ (by decide)
        have h64 : zW v (i / 64) (i % 64) = v.2 4 i := by
          unfold zW
          exact congrArg (v.2 4) (by omega)
        rw [← h64]
        by_cases q : v.2 5 (i / 64) = 0
        · rw [v0.2.2.2.2.1.2 _ q _ hi]; decide
        · rw [(vw _ (fun w' => q (v5 _ w'.1 w'.2.1 w'.2.2))).2 _ hi]
          unfold zW
          rw [uo 4 (by decide) (by decide) (by decide) (by decide) (by decide) (by decide)]
          exact hw4 _
      · by_cases c5 : a = 5
        · rw [c5]
          have := v0.2.2.2.2.1.1 i
          omega
        · rw [va a c4 c5 c12]
          by_cases c6 : a = 6
          · rw [c6]
            by_cases q : u.2 6 i = 0
            · rw [q]; decide
            · rw [d6 i q]; exact qb i
          · by_cases c7 : a = 7
            · rw [c7]
              by_cases q : i < 2048
              · rw [hcq.kk i q]; exact qb i
              · rw [u7 i (by omega), y4o 7 (by decide) (by decide)]
                exact h.wd 7 (by decide) (by decide) i
            · by_cases c9 : a = 9
              · rw [c9]
                have := hcq.cl.ub i
                omega
              · by_cases c23 : a = 23
                · rw [c23, ua 23 (by decide) (by decide) (by decide) (by decide) (by decide), y4a 23 (by decide), y323]
                  refine fm_lt _ ch 1 _ (by omega) (fun o => ?_) i
                  rw [ey2, zR2, if_pos rfl]
                  unfold flN
                  split
                  · decide
                  · rw [ya 23 (by decide), z22]; exact h.wd 23 (by decide) (by decide) o
                · rw [uo a c6 c7 c9 a1 a2 c23]
                  exact h.wd a a1 a2 i
  · rw [w11, hVlo _ (by omega), hVp0, es]
    exact Nat.le_of_eq hpk.h0
  · rw [hVlo 0 (by decide), w66, w16, su1]
    exact ⟨rfl, by rw [← su1]; exact su2, su3⟩
  · rw [ws 19 (by decide) (by decide) (by decide) (by decide)]; rfl
  · rw [ws k (by omega) (by omega) (by omega) (by omega), if_neg (by omega), if_neg (by omega), if_neg (by omega), if_neg (by omega)]
  · rw [oa a (by omega), va a (by omega) (by omega) (by omega), uo a (by omega) (by omega) (by omega) (by omega) (by omega) (by omega)]
