/-! the power fails -/
def PRT (z x : NSt) : Prop := (z.1 = x.1) ∧ (∀ c, c ≠ 4 → c ≠ 5 → c ≠ 22 → z.2 c = x.2 c) ∧ (∀ b, ¬ (pkB (x.1 11 + 1) ≤ b ∧ b < pkB (x.1 11 + 1) + 34) → zV z b = zV x b ∧ z.2 5 b = x.2 5 b) ∧ (zV z (pkB (x.1 11 + 1) + 33) 0 = zV z (pkB (x.1 11 + 1)) 0 → zV z (pkB (x.1 11 + 1)) 0 < x.1 11) ∧ (LGw z) ∧ (WD z)
theorem PRT.s {z x : NSt} (h9 : PRT z x) : z.1 = x.1 := h9.1
theorem PRT.a {z x : NSt} (h9 : PRT z x) : ∀ c, c ≠ 4 → c ≠ 5 → c ≠ 22 → z.2 c = x.2 c := h9.2.1
theorem PRT.dv {z x : NSt} (h9 : PRT z x) : ∀ b, ¬ (pkB (x.1 11 + 1) ≤ b ∧ b < pkB (x.1 11 + 1) + 34) → zV z b = zV x b ∧ z.2 5 b = x.2 5 b := h9.2.2.1
theorem PRT.ho {z x : NSt} (h9 : PRT z x) : zV z (pkB (x.1 11 + 1) + 33) 0 = zV z (pkB (x.1 11 + 1)) 0 → zV z (pkB (x.1 11 + 1)) 0 < x.1 11 := h9.2.2.2.1
theorem PRT.lw {z x : NSt} (h9 : PRT z x) : LGw z := h9.2.2.2.2.1
theorem PRT.wd {z x : NSt} (h9 : PRT z x) : WD z := h9.2.2.2.2.2
theorem WK.prt {z : NSt} {BP : Nat → Nat → Nat} {T : TRE} {tk : TKS} {PP : Nat → Nat} {ch : List Nat} (h : WK z BP T tk PP ch) : PRT z z :=
  ⟨rfl, fun _ _ _ _ => rfl, fun _ _ => ⟨rfl, rfl⟩, h.pk.ho, h.lg.1.2.2.2.2.1, h.wd⟩
theorem storePart_s {FU : Nat} (hF : 140000 < FU) {z : NSt} {BP : Nat → Nat → Nat} {T : TRE} {tk : TKS} {PP : Nat → Nat} {ch : List Nat} (h : WK z BP T tk PP ch) (hse : z.1 11 + 1 < 2 ^ 31) (h19 : z.1 19 < 2 ^ 32) {c : Nat} (hc : c < 2 ^ 31) : Ev (Chk_storePart FU (nI c) (up z)) fun r => ∃ y, r = up y ∧ PRT y z := by
  have hl := h.lg
  have e8 := hl.end8
  have e9 := hl.end9
  have hB := pkB_le (z.1 11 + 1)
  unfold Chk_storePart
  refine (fillPack_s (by omega) hl.1 (by omega) (by omega)).bd ?_
  rintro _ ⟨x, rfl, x1, xa, hpk⟩
  obtain ⟨nb, en, hnb⟩ : ∃ nb, (if (33 : Int32) < nI c then (33 : Int32) else nI c) = nI nb ∧ nb ≤ 33 := by
    by_cases q : 33 < c
    · exact ⟨33, if_pos (nI_lt q hc), by omega⟩
    · refine ⟨c, ?_, by omega⟩
      show (if nI 33 < nI c then nI 33 else nI c) = nI c
      rw [if_neg (nI_nlt (by omega) (by decide))]
  rw [en]
  have hw : LGw x := by
    have := hl.1.2.2.2.2.1
    unfold LGw zW at this ⊢
    rw [xa 5 (by decide), xa 4 (by decide)]
    exact this
  refine (storeBlocks_s (nb := nb) hF hw (by rw [x1]; exact hse) (by omega)).bd ?_
  rintro _ ⟨y, rfl, y1, ya, y5, yW⟩
  refine Ev.ret ⟨y, rfl, ?_⟩
  rw [x1] at y5 yW
  have hf0 : x.2 22 0 = z.1 11 + 1 := hpk.1
  have hf32 : ∀ i, x.2 22 i < 2 ^ 32 := hpk.2.2.2.2.2.2.2 ⟨h.wd 22 (by decide) (by decide), h.wd 6 (by decide) (by decide), h19, by omega, by omega⟩
  have xW : ∀ b i, zW x b i = zW z b i := fun b i => by unfold zW; rw [xa 4 (by decide)]
  refine ⟨by rw [y1, x1], fun c c4 c5 c22 => by rw [ya c c4 c5, xa c c22], fun b hb => ⟨cutW_congr (fun i hi => ?_), ?_⟩, fun e => ?_, ⟨fun b => ?_, fun b hb i hi => ?_⟩, fun a a1 a2 i => ?_⟩
  · rw [yW b i hi, if_neg (by omega), if_neg (by omega), xW]
  · rw [y5, if_neg (by omega), if_neg (by omega), xa 5 (by decide)]
  · have e33 : zV y (pkB (z.1 11 + 1) + 33) 0 = 0 := by
      rw [zV_W (by decide), yW _ 0 (by decide), if_neg (by omega), if_pos (by omega)]
    rw [← e, e33]
    have := h.pk.ser
    omega
  · rw [y5, xa 5 (by decide)]
    split
    · omega
    · split
      · omega
      · exact hl.1.2.2.2.2.1.1 b
  · rw [y5, xa 5 (by decide)] at hb
    rw [yW b i hi]
    split
    · rename_i w; rw [if_pos w] at hb; omega
    · rename_i w
      rw [if_neg w] at hb
      split
      · rfl
      · rename_i v
        rw [if_neg v] at hb
        rw [xW]
        exact hl.1.2.2.2.2.1.2 b hb i hi
  · by_cases c4 : a = 4
    · rw [c4]
      have hi : i % 64 < 64 := Nat.mod_lt _ (by decide)
      have h64 : zW y (i / 64) (i % 64) = y.2 4 i := by
        unfold zW
        exact congrArg (y.2 4) (by omega)
      rw [← h64, yW _ _ hi]
      split
      · exact hf32 _
      · split
        · decide
        · rw [xW]; exact h.wd 4 (by decide) (by decide) _
    · by_cases c5 : a = 5
      · rw [c5, y5, xa 5 (by decide)]
        split
        · decide
        · split
          · decide
          · exact h.wd 5 (by decide) (by decide) i
      · rw [ya a c4 c5]
        by_cases c22 : a = 22
        · rw [c22]; exact hf32 i
        · rw [xa a c22]; exact h.wd a a1 a2 i
theorem losePower_s {FU : Nat} (hF : 140000 < FU) {z x : NSt} {T R : TRE} {tk : TKS} {PP : Nat → Nat} {ch : List Nat} (hx : NW x T R tk PP ch) (h : PRT z x) : Ev (FF_losePower FU (up z)) fun r => ∃ y, r = up y ∧ OFF y x T R tk PP ch ∧ y.1 2 = 1 ∧ y.1 3 = 4294967295 ∧ (∀ k, k ≤ 1 ∨ k = 4 ∨ 20 ≤ k → y.1 k = z.1 k) ∧ (∀ a, a ≤ 3 → y.2 a = z.2 a) := by
  have hl := hx.wk.lg
  unfold FF_losePower
  rw [show (-1 : Int32) = nI 4294967295 from rfl, show (1 : Int32) = nI 1 from rfl]
  simp (disch := omega) only [lit_nI, nI_ltI, nI_leI, nI_eq, nI_add, pk_sub, pk_div, nI_64, rdA_z, wrA_z, cpy_z, up1, up_I, nz_n0, nz_n1, zI1, zI2, zR1, zR2, zA1, zA2, Option.bind_some, nx_eq, if_true, if_false, if_pos, if_neg]
  rw [Tab_forget_z _ (by omega), Option.bind_some, Log_forget_z _ (by omega), Option.bind_some, Chk_forget_z, Option.bind_some]
  obtain ⟨z1, e1⟩ : ∃ z1, z1 = zI (zI z 2 1) 3 4294967295 := ⟨_, rfl⟩
  rw [← e1]
  have z12 : z1.2 = z.2 := by rw [e1]; rfl
  have z1s : ∀ k, z1.1 k = if k = 3 then 4294967295 else if k = 2 then 1 else z.1 k := fun k => by rw [e1, zI1, zI1]
  obtain ⟨y, ey⟩ : ∃ y, y = fgC (fgL (forgetT z1)) := ⟨_, rfl⟩
  have ys : ∀ k, y.1 k = if (6 ≤ k ∧ k ≤ 11) ∨ (16 ≤ k ∧ k ≤ 19) then 0 else z1.1 k := fun k => by
    rw [ey]
    unfold fgC fgL
    rw [zI1, zI1, zI1, zI1, zI1, zI1, zI1, zI1, zI1, zI1]
    by_cases c19 : k = 19
    · rw [if_pos c19, if_pos (by omega)]
    rw [if_neg c19]
    by_cases c18 : k = 18
    · rw [if_pos c18, if_pos (by omega)]
    rw [if_neg c18]
    by_cases c17 : k = 17
    · rw [if_pos c17, if_pos (by omega)]
    rw [if_neg c17]
    by_cases c16 : k = 16
    · rw [if_pos c16, if_pos (by omega)]
    rw [if_neg c16]
    by_cases c11 : k = 11
    · rw [if_pos c11, if_pos (by omega)]
    rw [if_neg c11]
    by_cases c10 : k = 10
    · rw [if_pos c10, if_pos (by omega)]
    rw [if_neg c10]
    by_cases c9 : k = 9
    · rw [if_pos c9, if_pos (by omega)]
    rw [if_neg c9]
    by_cases c8 : k = 8
    · rw [if_pos c8, if_pos (by omega)]
    rw [if_neg c8]
    by_cases c7 : k = 7
    · rw [if_pos c7, if_pos (by omega)]
    rw [if_neg c7]
    by_cases c6 : k = 6
    · rw [if_pos c6, if_pos (by omega)]
    rw [if_neg c6, if_neg (by omega)]
    rfl
  have yf : ∀ a, a ≠ 6 → a ≠ 7 → a ≠ 8 → a ≠ 9 → a ≠ 10 → a ≠ 11 → a ≠ 12 → y.2 a = z.2 a := fun a a6 a7 a8 a9 a10 a11 a12 => by
    rw [← z12, ey]
    unfold fgC fgL forgetT settleZ
    rw [zI2, zI2, zI2, zI2, zI2, zI2, zI2, zI2, zI2, zI2, zR2, if_neg a12, zR2, if_neg a11, zR2, if_neg a10, zR2, if_neg a9, zR2, if_neg a8, zR2, if_neg a7, zR2, if_neg a6]
  have y6 : ∀ i, y.2 6 i = if i < 2048 then 0 else z.2 6 i := fun i => by
    rw [← z12, ey]
    unfold fgC fgL forgetT settleZ
    rw [zI2, zI2, zI2, zI2, zI2, zI2, zI2, zI2, zI2, zI2, zR2, if_neg (by decide), zR2, if_neg (by decide), zR2, if_neg (by decide), zR2, if_neg (by decide), zR2, if_neg (by decide), zR2, if_neg (by decide), zR2, if_pos rfl]
    unfold flN
    by_cases c : i < 2048
    · rw [if_pos ⟨by omega, c⟩, if_pos c]
    · rw [if_neg (by omega), if_neg c]
  have y7 : ∀ i, y.2 7 i < 2 ^ 32 := fun i => by
    have hw6 : ∀ i, z1.2 6 i < 2 ^ 32 := by rw [z12]; exact h.wd 6 (by decide) (by decide)
    have hw7 : ∀ i, z1.2 7 i < 2 ^ 32 := by rw [z12]; exact h.wd 7 (by decide) (by decide)
    rw [ey]
    unfold fgC fgL forgetT settleZ
    rw [zI2, zI2, zI2, zI2, zI2, zI2, zI2, zI2, zI2, zI2, zR2, if_neg (by decide), zR2, if_neg (by decide), zR2, if_neg (by decide), zR2, if_neg (by decide), zR2, if_neg (by decide), zR2, if_pos rfl]
    unfold va_cpy
    split
    · rw [zR2, if_pos rfl]
      unfold flN
      split
      · decide
      · exact hw6 _
    · rw [zR2, if_neg (by decide)]; exact hw7 i
  have y8 : ∀ i, y.2 8 i < 2 ^ 32 := fun i => by
    have hw8 : ∀ i, z1.2 8 i < 2 ^ 32 := by rw [z12]; exact h.wd 8 (by decide) (by decide)
    rw [ey]
    unfold fgC fgL forgetT settleZ
    rw [zI2, zI2, zI2, zI2, zI2, zI2, zI2, zI2, zI2, zI2, zR2, if_neg (by decide), zR2, if_neg (by decide), zR2, if_neg (by decide), zR2, if_neg (by decide), zR2, if_pos rfl]
    unfold flN
    split
    · decide
    · rw [zR2, if_neg (by decide)]
      exact hw8 i
  have y9 : ∀ i, y.2 9 i = if i < 2117 then 0 else z.2 9 i := fun i => by
    rw [← z12, ey]
    unfold fgC fgL
    rw [zI2, zI2, zI2, zI2, zI2, zI2, zI2, zI2, zI2, zI2, zR2, if_neg (by decide), zR2, if_neg (by decide), zR2, if_neg (by decide), zR2, if_pos rfl]
    unfold flN
    by_cases c : i < 2117
    · rw [if_pos ⟨by omega, c⟩, if_pos c]
    · rw [if_neg (by omega), if_neg c]
      rfl
  have y10 : ∀ i, i < 128 → y.2 10 i = 0 := fun i hi => by
    rw [ey]
    unfold fgC fgL
    rw [zI2, zI2, zI2, zI2, zI2, zI2, zI2, zI2, zI2, zI2, zR2, if_neg (by decide), zR2, if_neg (by decide), zR2, if_pos rfl]
    exact if_pos ⟨by omega, hi⟩
  have y11 : ∀ i, i < 128 → y.2 11 i = 0 := fun i hi => by
    rw [ey]
    unfold fgC fgL
    rw [zI2, zI2, zI2, zI2, zI2, zI2, zI2, zI2, zI2, zI2, zR2, if_neg (by decide), zR2, if_pos rfl]
    exact if_pos ⟨by omega, hi⟩
  have y12 : ∀ i, y.2 12 i = if i < 128 then 0 else z.2 12 i := fun i => by
    rw [← z12, ey]
    unfold fgC fgL
    rw [zI2, zI2, zI2, zI2, zI2, zI2, zI2, zI2, zI2, zI2, zR2, if_pos rfl]
    unfold flN
    by_cases c : i < 128
    · rw [if_pos ⟨by omega, c⟩, if_pos c]
    · rw [if_neg (by omega), if_neg c]
      rfl
  have hVy : zV y = zV z := funext (zV_congr (yf 4 (by decide) (by decide) (by decide) (by decide) (by decide) (by decide) (by decide)))
  have y5 := yf 5 (by decide) (by decide) (by decide) (by decide) (by decide) (by decide) (by decide)
  have y4 := yf 4 (by decide) (by decide) (by decide) (by decide) (by decide) (by decide) (by decide)
  rw [← ey]
  refine Ev.ret ⟨y, rfl, ⟨hx, fun b hb => by rw [hVy, y5]; exact h.dv b hb, by rw [hVy]; exact h.ho, ?_, ?_, fun k k1 k2 => by rw [ys, if_pos (by omega)], fun i => ?_, fun i => ?_, fun i hi => ⟨y10 i hi, y11 i hi⟩, fun i => ?_, fun a a1 a2 i => ?_⟩, ?_, ?_, fun k hk => ?_, fun a ha => yf a (by omega) (by omega) (by omega) (by omega) (by omega) (by omega) (by omega)⟩
  · have := h.lw
    unfold LGw zW at this ⊢
    rw [y5, y4]
    exact this
  · rw [ys, if_neg (by omega), z1s, if_neg (by decide), if_neg (by decide), h.s]
    exact hl.1.2.2.2.2.2.2
  · rw [y6]
    split
    · rfl
    · rename_i c
      rw [h.a 6 (by decide) (by decide) (by decide)]
      refine Classical.byContradiction (fun w => ?_)
      have := (hx.wk.nu i w).2.1
      omega
  · rw [y9]
    split
    · rfl
    · rename_i c
      rw [h.a 9 (by decide) (by decide) (by decide)]
      refine Classical.byContradiction (fun w => ?_)
      have := hl.1.2.1 i w
      have := hl.1.1.2.1
      omega
  · rw [y12]
    split
    · rfl
    · rename_i c
      rw [h.a 12 (by decide) (by decide) (by decide)]
      refine Classical.byContradiction (fun w => ?_)
      have := (hl.1.2.2.2.1.1 i w).2.1
      have := hl.1.1.2.1
      omega
  · by_cases c6 : a = 6
    · rw [c6, y6]
      split
      · decide
      · exact h.wd 6 (by decide) (by decide) i
    by_cases c7 : a = 7
    · rw [c7]; exact y7 i
    by_cases c8 : a = 8
    · rw [c8]; exact y8 i
    by_cases c9 : a = 9
    · rw [c9, y9]
      split
      · decide
      · exact h.wd 9 (by decide) (by decide) i
    by_cases c12 : a = 12
    · rw [c12, y12]
      split
      · decide
      · exact h.wd 12 (by decide) (by decide) i
    rw [yf a c6 c7 c8 c9 a1 a2 c12]
    exact h.wd a a1 a2 i
  · rw [ys, if_neg (by omega), z1s]; rfl
  · rw [ys, if_neg (by omega), z1s]; rfl
  · rw [ys, if_neg (by omega), z1s, if_neg (by omega), if_neg (by omega)]
/-- what take needs to know -/
theorem pre_take {z : NSt} {T : TRE} (hw : LG z ∧ TR (z.2 6) (BPL (zV z) (z.2 6)) (z.2 9) ∧ NUM (zV z) (z.2 6) ∧ WD z) (ht : TOK (zV z) (z.2 6) T) (hld : LED (zV z) (z.2 6) T) (hold : zV z (pkB (z.1 11)) 0 ≤ z.1 11) (hsu : zV z 0 0 = z.1 6 ∧ zV z 0 1 ≤ zV z 0 0 ∧ z.1 16 = 16 * (zV z 0 0 - zV z 0 1)) (h19 : z.1 19 < 2 ^ 32) (hse : z.1 11 + 1 < 2 ^ 31) : (∀ id, smI z id) ∧ un z ≤ inUseN z ∧ ∃ x, NW x T T (z.1 19, fun _ => false) (z.2 6) [] ∧ un x = un z ∧ inUseN x = inUseN z ∧ x.2 6 = z.2 6 := by
  obtain ⟨-, -, y, -, hy, hc⟩ := commit_s (FU := 150000) (by decide) hw.1 hse
  obtain ⟨x, ex⟩ : ∃ x, x = settleZ y := ⟨_, rfl⟩
  have x1 : x.1 = y.1 := by rw [ex]; rfl
  have xa : ∀ c, c ≠ 7 → c ≠ 8 → x.2 c = y.2 c := fun c c7 c8 => by
    rw [ex]
    unfold settleZ
    rw [zR2, if_neg c8, zR2, if_neg c7]
  have x7 : ∀ n, n < 2048 → x.2 7 n = y.2 6 n := fun n hn => by
    rw [ex]
    unfold settleZ
    rw [zR2, if_neg (by decide), zR2, if_pos rfl]
    unfold va_cpy
    rw [if_pos (by omega)]
    exact congrArg (y.2 6) (by omega)
  have y6 : y.2 6 = z.2 6 := hc.2.2.1 6 (by decide) (by decide) (by decide) (by decide)
  have x6 : x.2 6 = z.2 6 := by rw [xa 6 (by decide) (by decide), y6]
  have hkx : HK x := ⟨fun n hn => by rw [x7 n (by omega), x6, y6], fun n _ n2 q => by rw [x7 n n2, y6] at q; rw [x6]; exact q⟩
  have hwd := hw.2.2.2
  have w7 : ∀ i, x.2 7 i < 2 ^ 32 := fun i => by
    rw [ex]
    unfold settleZ
    rw [zR2, if_neg (by decide), zR2, if_pos rfl]
    unfold va_cpy
    split
    · rw [y6]; exact hwd 6 (by decide) (by decide) _
    · rw [hc.2.2.1 7 (by decide) (by decide) (by decide) (by decide)]; exact hwd 7 (by decide) (by decide) i
  have w8 : ∀ i, x.2 8 i < 2 ^ 32 := fun i => by
    rw [ex]
    unfold settleZ
    rw [zR2, if_pos rfl]
    unfold flN
    split
    · decide
    · rw [hc.2.2.1 8 (by decide) (by decide) (by decide) (by decide)]; exact hwd 8 (by decide) (by decide) i
  have nx := commit_nw hw ht hld hold hsu hy hc h19 x1 xa w7 w8 hkx hse
  have hwd' : ∀ id i, i < 64 → wdI x id i = wdI z id i := fun id i hi => by
    unfold wdI
    rw [x6]
    by_cases c : 1 ≤ id ∧ id ≤ 250 ∧ z.2 6 id ≠ 0
    · rw [if_pos c, if_pos c]
      have h1 : zV y (z.2 6 id) = zV z (z.2 6 id) := (hc.keep hw.1 (by rw [(hw.2.1.2.1 _).mpr ⟨c.2.2, id, rfl⟩]; decide)).2
      have h2 := congrFun h1 i
      rw [zV_W hi, zV_W hi] at h2
      rw [← h2]
      unfold zW
      rw [xa 4 (by decide) (by decide)]
    · rw [if_neg c, if_neg c]
  have hsm : ∀ id, smI z id := fun id => by
    have := nx.sm id
    unfold smI at this ⊢
    rw [hwd' id 0 (by decide), hwd' id 1 (by decide), hwd' id 3 (by decide), hwd' id 4 (by decide)] at this
    exact this
  have hin : inUseN x = inUseN z := by
    unfold inUseN
    refine sm_congr (fun j _ => ?_)
    unfold blI
    rw [hwd' _ 0 (by decide), hwd' _ 1 (by decide), hwd' _ 3 (by decide), hwd' _ 4 (by decide)]
  have hun : un x = un z := un_congr (by rw [xa 9 (by decide) (by decide), hc.2.2.1 9 (by decide) (by decide) (by decide) (by decide)])
  have := phys nx
  rw [hin, hun] at this
  exact ⟨hsm, this, x, nx, hun, hin, x6⟩
