/-! mounting -/
def wsN (z : NSt) (t : Nat) : Nat := if zV z (pkB t + 33) 0 = zV z (pkB t) 0 then zV z (pkB t) 0 else 0
theorem wholeSerial_z (FU : Nat) {z : NSt} (hw : ∀ i, z.2 4 i < 2 ^ 32) {t : Nat} (ht : t < 2 ^ 32) : Chk_wholeSerial FU (nI t) (up z) = some (nI (wsN z t)) := by
  have b := pkB_le t
  have e : nI (pkB t) + (34 : Int32) - (1 : Int32) = nI (pkB t + 33) := by
    simp (disch := omega) only [lit_nI, nI_ltI, nI_leI, nI_eq, nI_add, pk_sub, pk_div, nI_64, rdA_z, wrA_z, cpy_z, up1, up_I, nz_n0, nz_n1, zI1, zI2, zR1, zR2, zA1, zA2, Option.bind_some, nx_eq, if_true, if_false, if_pos, if_neg]
    omega
  unfold Chk_wholeSerial wsN
  rw [beginOfPack_z FU _ ht, Option.bind_some, e, show (0 : Int32) = nI 0 from rfl, Dev_word_e FU z (by omega) (by decide), Option.bind_some, Dev_word_e FU z (by omega) (by decide), Option.bind_some, ← zV_W (by decide), ← zV_W (by decide)]
  by_cases c : zV z (pkB t + 33) 0 = zV z (pkB t) 0
  · rw [if_pos c, if_pos (by rw [c])]
  · rw [if_neg c, if_neg (fun q => c ((nI_inj (zV_lt hw _ _) (zV_lt hw _ _)).mp q))]
theorem ws_max {z : NSt} {s : Nat} (hs : s < 2 ^ 31) (h0 : zV z (pkB s) 0 = s) (h1 : zV z (pkB s + 33) 0 = s) (ho : zV z (pkB (s + 1) + 33) 0 = zV z (pkB (s + 1)) 0 → zV z (pkB (s + 1)) 0 < s) : (if nI (wsN z 0) < nI (wsN z 1) then nI (wsN z 1) else nI (wsN z 0)) = nI s := by
  have a : wsN z s = s := by
    unfold wsN
    rw [h0, h1, if_pos rfl]
  have b : wsN z (s + 1) ≤ s := by
    unfold wsN
    split
    · rename_i q
      have := ho q
      omega
    · omega
  by_cases c : s % 2 = 0
  · have e0 : wsN z 0 = wsN z s := by
      unfold wsN pkB
      rw [c]
    have e1 : wsN z 1 = wsN z (s + 1) := by
      unfold wsN pkB
      rw [show (s + 1) % 2 = 1 by omega]
    rw [e0, e1, a, if_neg (nI_nlt b hs)]
  · have e0 : wsN z 1 = wsN z s := by
      unfold wsN pkB
      rw [show s % 2 = 1 by omega]
    have e1 : wsN z 0 = wsN z (s + 1) := by
      unfold wsN pkB
      rw [show (s + 1) % 2 = 0 by omega]
    rw [e0, e1, a]
    by_cases d : wsN z (s + 1) < s
    · rw [if_pos (nI_lt d hs)]
    · rw [if_neg (nI_nlt (by omega) (by omega)), show wsN z (s + 1) = s by omega]
theorem rch_of {x z : NSt} {PP : Nat → Nat} {ch : List Nat} (hc : CHO x PP ch) (hx : LG x) (hV : ∀ b, 69 ≤ b → zV z b = zV x b) (h11 : z.1 11 = x.1 11) : ∀ (l : List Nat) (e : Nat), (∀ b, b ∈ l → b ∈ ch) → chn (zV x) l e (x.1 8) → RCH z l e := by
  have hS := hx.1.1.2.1
  intro l
  induction l with
  | nil =>
    intro e _ h
    have h : e = x.1 8 := h
    have e8 := hx.end8
    rw [h]
    refine ⟨e8.1, e8.2.2.1, ?_⟩
    rw [hV _ e8.1, zV_W (by decide)]
    exact hx.1.2.2.2.2.1.2 _ e8.2.2.2.1 61 (by decide)
  | cons b l ih =>
    intro e hl h
    obtain ⟨c1, c2, c3, c4, c5, c6, c7, c8, -⟩ := hc.el b (hl b (List.mem_cons_self ..))
    refine ⟨h.1, c2, by omega, ?_, ?_, ?_, ?_, ?_, ?_⟩
    · rw [hV b c2, h11]; exact c4
    · rw [hV b c2]; exact c5
    · rw [hV b c2]; exact c6
    · rw [hV b c2]; exact c7
    · rw [hV b c2]; exact c8
    · rw [hV b c2]
      exact ih _ (fun c hc' => hl c (List.mem_cons_of_mem _ hc')) h.2
/-- the table is read -/
theorem tabRead (FU : Nat) {z : NSt} {B : Nat} {PP : Nat → Nat} (hB : B + 34 ≤ 69) (hp : ∀ n, 1 ≤ n → n < 2048 → zV z (B + 1 + n / 64) (n % 64) = PP n) (h0 : ∀ n, PP n ≠ 0 → 1 ≤ n ∧ n < 2048) (hw : ∀ i, z.2 4 i < 2 ^ 32) (Q : Int32 × St → Prop) (hq : ∀ y : NSt, y.1 = z.1 → (∀ a, a ≠ 6 → y.2 a = z.2 a) → y.2 6 = PP → Ev (Chk_bringBack_b46 FU 1 (nI B) (nI 2048) (up y)) Q) : ∀ (m i n : Nat) (y : NSt), i + m = 2048 → m < n → 1 ≤ i → y.1 = z.1 → (∀ a, a ≠ 6 → y.2 a = z.2 a) → y.2 6 = (fun n => if n < i then PP n else 0) → Ev (Chk_bringBack_b46 FU n (nI B) (nI i) (up y)) Q := by
  intro m
  induction m with
  | zero =>
    intro i n y h1 h2 h3 y1 ya y6
    obtain ⟨n, rfl⟩ : ∃ q9, n = q9 + 1 := ⟨n - 1, by omega⟩
    have h1 : i = 2048 := h1
    subst h1
    have := hq y y1 ya (by
      rw [y6]
      funext k
      by_cases c : k < 2048
      · exact if_pos c
      · rw [if_neg c]
        exact (Classical.byContradiction (fun w => by have := h0 k (Ne.symm w); omega)))
    unfold Chk_bringBack_b46 at this ⊢
    rw [show (2048 : Int32) = nI 2048 from rfl, if_pos (nI_le (Nat.le_refl _) (by decide))] at this ⊢
    exact this
  | succ m ih =>
    intro i n y h1 h2 h3 y1 ya y6
    obtain ⟨n, rfl⟩ : ∃ q9, n = q9 + 1 := ⟨n - 1, by omega⟩
    unfold Chk_bringBack_b46
    have hVy : zV y = zV z := funext (zV_congr (ya 4 (by decide)))
    have e1 : nI B + (1 : Int32) + nI i / (64 : Int32) = nI (B + 1 + i / 64) := by simp (disch := omega) only [lit_nI, nI_ltI, nI_leI, nI_eq, nI_add, pk_sub, pk_div, nI_64, rdA_z, wrA_z, cpy_z, up1, up_I, nz_n0, nz_n1, zI1, zI2, zR1, zR2, zA1, zA2, Option.bind_some, nx_eq, if_true, if_false, if_pos, if_neg]
    have e2 : nI i - nI i / (64 : Int32) * (64 : Int32) = nI (i % 64) := by
      simp (disch := omega) only [lit_nI, nI_ltI, nI_leI, nI_eq, nI_add, pk_sub, pk_div, nI_64, rdA_z, wrA_z, cpy_z, up1, up_I, nz_n0, nz_n1, zI1, zI2, zR1, zR2, zA1, zA2, Option.bind_some, nx_eq, if_true, if_false, if_pos, if_neg]
      omega
    rw [show (2048 : Int32) = nI 2048 from rfl, if_neg (nI_ge (by omega) (by decide)), e1, e2, Dev_word_e FU y (by omega) (Nat.mod_lt _ (by decide)), Option.bind_some, ← zV_W (Nat.mod_lt _ (by decide)), hVy, hp i h3 (by omega), Tab_setPlace_z FU y (by omega), Option.bind_some, nI_1]
    unfold setPl
    rw [if_pos ⟨h3, by omega⟩]
    refine ih (i + 1) n _ (by omega) (by omega) (by omega) y1 (fun a ha => by rw [zA2, if_neg ha]; exact ya a ha) ?_
    rw [zA2, if_pos rfl, y6]
    funext k
    by_cases c : k = i
    · rw [c, va_up_self, if_pos (by omega)]
    · rw [va_up_ne _ _ c]
      by_cases d : k < i
      · rw [if_pos d, if_pos (by omega)]
      · rw [if_neg d, if_neg (by omega)]
theorem sh31 : ∀ t, t < 32 → ((Int32.toUInt32 (nI t) &&& Int32.toUInt32 31).toBitVec % 32).toNat = t := by decide +kernel
theorem bit_I {w s : Nat} (hw : w < 2 ^ 32) (hs : s < 2 ^ 31) : ush (nI w) (nI s &&& (31 : Int32)) &&& (1 : Int32) = nI (if w.testBit (s % 32) = true then 1 else 0) := by
  rw [show nI s &&& (31 : Int32) = nI (s % 32) from pk_andN (by omega) 5 (by decide), ushN hw _ (s % 32) (sh31 _ (Nat.mod_lt _ (by decide)))]
  have h : w / 2 ^ (s % 32) ≤ w := Nat.div_le_self ..
  rw [show nI (w / 2 ^ (s % 32)) &&& (1 : Int32) = nI (w / 2 ^ (s % 32) % 2) from pk_andN (by omega) 1 (by decide), Nat.testBit_eq_decide_div_mod_eq]
  by_cases c : w / 2 ^ (s % 32) % 2 = 1
  · rw [c]; rfl
  · rw [show w / 2 ^ (s % 32) % 2 = 0 by omega]; rfl
def mtB (z : NSt) (B s : Nat) : Bool := (zV z B (4 + s / 32)).testBit (s % 32) && deadB z s
theorem bringFree_b (FU : Nat) (hF : 140000 < FU) {z : NSt} (hz : LG0 z) (h8 : z.1 8 < 2 ^ 31) (h9 : z.1 9 < 2 ^ 31) (hw : ∀ i, z.2 4 i < 2 ^ 32) {B c : Nat} (hB : B < 69) (Q : Int32 × St → Prop) (hq : ∀ x, FRD (mtB z B) (z.1 6) z x → Ev ((Log_openEnds FU (up x)).bind fun p4 => some (nI c, p4)) Q) : ∀ (m i n : Nat) (y : NSt), i + m = z.1 6 → m < n → FRD (mtB z B) i z y → Ev (Chk_bringBack_b120 FU n (nI B) (nI c) (nI i) (up y)) Q := by
  have hS := hz.1.2.1
  intro m
  induction m with
  | zero =>
    intro i n y h1 h2 hy
    obtain ⟨n, rfl⟩ : ∃ q9, n = q9 + 1 := ⟨n - 1, by omega⟩
    have hi : i = z.1 6 := h1
    subst hi
    unfold Chk_bringBack_b120 Log_segments
    have e6 : y.1 6 = z.1 6 := hy.2.1.1 6 (by decide)
    rw [Option.bind_some, up1, e6, if_pos (nI_le (Nat.le_refl _) (by omega))]
    exact hq y hy
  | succ m ih =>
    intro i n y h1 h2 hy
    obtain ⟨n, rfl⟩ : ∃ q9, n = q9 + 1 := ⟨n - 1, by omega⟩
    have e6 : y.1 6 = z.1 6 := hy.2.1.1 6 (by decide)
    have hd : deadB y i = deadB z i := by
      unfold deadB endB
      rw [hy.2.1.2 10 (by decide) (by decide) (by decide), hy.2.1.2 11 (by decide) (by decide) (by decide), hy.2.1.1 8 (by decide), hy.2.1.1 9 (by decide)]
    have cc := hy.1.cnt16 (s := i) (by omega)
    have hWB : ∀ j, j < 64 → zW y B j = zV z B j := fun j hj => by
      rw [(hy.2.2.2.2 B (fun w => by omega)).2 j hj, zV_W hj]
    have e5 : (4 : Int32) + (nI i >>> ((5 : Int32) &&& 31)) = nI (4 + i / 32) := by
      rw [shr5 i (by omega)]
      simp (disch := omega) only [lit_nI, nI_ltI, nI_leI, nI_eq, nI_add, pk_sub, pk_div, nI_64, rdA_z, wrA_z, cpy_z, up1, up_I, nz_n0, nz_n1, zI1, zI2, zR1, zR2, zA1, zA2, Option.bind_some, nx_eq, if_true, if_false, if_pos, if_neg]
    unfold Chk_bringBack_b120 Log_segments
    rw [Option.bind_some, up1, e6, if_neg (nI_ge (by omega) (by omega)), e5, Dev_word_e FU y (by omega) (by omega), Option.bind_some, hWB _ (by omega), bit_I (zV_lt hw _ _) (by omega)]
    have skip : mtB z B i = false → Ev (Chk_bringBack_b191 FU (Chk_bringBack_b120 FU n) (nI B) (nI c) (nI i) (up y)) Q := fun w => by
      unfold Chk_bringBack_b191
      rw [nI_1]
      exact ih (i + 1) n y (by omega) (by omega) (hy.skip w)
    cases hb : (zV z B (4 + i / 32)).testBit (i % 32)
    · rw [if_neg (by decide)]
      unfold Chk_bringBack_b163
      rw [if_pos rfl]
      exact skip (by unfold mtB; rw [hb]; rfl)
    · rw [if_pos rfl, if_pos i11]
      unfold Chk_bringBack_b163
      rw [if_neg (by decide), Log_isDead_z FU y (by omega) (by rw [hy.2.1.1 8 (by decide)]; exact h8) (by rw [hy.2.1.1 9 (by decide)]; exact h9) (by omega) (by omega), hd, Option.bind_some]
      cases hdd : deadB z i
      · rw [if_pos (show nI (if false = true then 1 else 0) = (0 : Int32) from rfl)]
        exact skip (by unfold mtB; rw [hdd, Bool.and_false])
      · rw [if_pos rfl, if_neg (show ¬ nI 1 = (0 : Int32) by decide)]
        have hww := hy.1.2.2.2.2.1.1
        rw [Log_setFree_z y hF (by omega) (by omega) hy.1.free1 (fun b => by have := hww b; omega), Option.bind_some]
        unfold Chk_bringBack_b191
        rw [nI_1]
        have hq' := hdd
        unfold deadB at hdd
        simp only [Bool.and_eq_true, decide_eq_true_eq] at hdd
        exact ih (i + 1) n _ (by omega) (by omega) (hy.step (by omega) (by unfold mtB; rw [hb, hq']; rfl) hdd.1.1 hdd.1.2)
/-- the power is off: a state before stands behind the device -/
def OFF (z x : NSt) (T R : TRE) (tk : TKS) (PP : Nat → Nat) (ch : List Nat) : Prop := (NW x T R tk PP ch) ∧ (∀ b, ¬ (pkB (x.1 11 + 1) ≤ b ∧ b < pkB (x.1 11 + 1) + 34) → zV z b = zV x b ∧ z.2 5 b = x.2 5 b) ∧ (zV z (pkB (x.1 11 + 1) + 33) 0 = zV z (pkB (x.1 11 + 1)) 0 → zV z (pkB (x.1 11 + 1)) 0 < x.1 11) ∧ (LGw z) ∧ (z.1 5 = 0) ∧ (∀ k, 6 ≤ k → k ≤ 11 ∨ (16 ≤ k ∧ k ≤ 19) → z.1 k = 0) ∧ (∀ i, z.2 6 i = 0) ∧ (∀ i, z.2 9 i = 0) ∧ (∀ i, i < 128 → z.2 10 i = 0 ∧ z.2 11 i = 0) ∧ (∀ i, z.2 12 i = 0) ∧ (WD z)
theorem OFF.nw {z x : NSt} {T R : TRE} {tk : TKS} {PP : Nat → Nat} {ch : List Nat} (h9 : OFF z x T R tk PP ch) : NW x T R tk PP ch := h9.1
theorem OFF.dv {z x : NSt} {T R : TRE} {tk : TKS} {PP : Nat → Nat} {ch : List Nat} (h9 : OFF z x T R tk PP ch) : ∀ b, ¬ (pkB (x.1 11 + 1) ≤ b ∧ b < pkB (x.1 11 + 1) + 34) → zV z b = zV x b ∧ z.2 5 b = x.2 5 b := h9.2.1
theorem OFF.ho {z x : NSt} {T R : TRE} {tk : TKS} {PP : Nat → Nat} {ch : List Nat} (h9 : OFF z x T R tk PP ch) : zV z (pkB (x.1 11 + 1) + 33) 0 = zV z (pkB (x.1 11 + 1)) 0 → zV z (pkB (x.1 11 + 1)) 0 < x.1 11 := h9.2.2.1
theorem OFF.lw {z x : NSt} {T R : TRE} {tk : TKS} {PP : Nat → Nat} {ch : List Nat} (h9 : OFF z x T R tk PP ch) : LGw z := h9.2.2.2.1
theorem OFF.z5 {z x : NSt} {T R : TRE} {tk : TKS} {PP : Nat → Nat} {ch : List Nat} (h9 : OFF z x T R tk PP ch) : z.1 5 = 0 := h9.2.2.2.2.1
theorem OFF.sc {z x : NSt} {T R : TRE} {tk : TKS} {PP : Nat → Nat} {ch : List Nat} (h9 : OFF z x T R tk PP ch) : ∀ k, 6 ≤ k → k ≤ 11 ∨ (16 ≤ k ∧ k ≤ 19) → z.1 k = 0 := h9.2.2.2.2.2.1
theorem OFF.t6 {z x : NSt} {T R : TRE} {tk : TKS} {PP : Nat → Nat} {ch : List Nat} (h9 : OFF z x T R tk PP ch) : ∀ i, z.2 6 i = 0 := h9.2.2.2.2.2.2.1
theorem OFF.t9 {z x : NSt} {T R : TRE} {tk : TKS} {PP : Nat → Nat} {ch : List Nat} (h9 : OFF z x T R tk PP ch) : ∀ i, z.2 9 i = 0 := h9.2.2.2.2.2.2.2.1
theorem OFF.t10 {z x : NSt} {T R : TRE} {tk : TKS} {PP : Nat → Nat} {ch : List Nat} (h9 : OFF z x T R tk PP ch) : ∀ i, i < 128 → z.2 10 i = 0 ∧ z.2 11 i = 0 := h9.2.2.2.2.2.2.2.2.1
theorem OFF.t12 {z x : NSt} {T R : TRE} {tk : TKS} {PP : Nat → Nat} {ch : List Nat} (h9 : OFF z x T R tk PP ch) : ∀ i, z.2 12 i = 0 := h9.2.2.2.2.2.2.2.2.2.1
theorem OFF.wd {z x : NSt} {T R : TRE} {tk : TKS} {PP : Nat → Nat} {ch : List Nat} (h9 : OFF z x T R tk PP ch) : WD z := h9.2.2.2.2.2.2.2.2.2.2
