/-! the ends are opened; packs -/
theorem LG0.setI8 {z : NSt} (h : LG0 z) {k v : Nat} (hk : k ≠ 5 ∧ k ≠ 6 ∧ k ≠ 7 ∧ k ≠ 10) : LG0 (zI z k v) := by
  obtain ⟨k5, k6, k7, k10⟩ := hk
  obtain ⟨h1, h2, h3, h4, h5, h6⟩ := h
  refine ⟨?_, ?_, h3, ?_, h5, ?_⟩
  · unfold LGs; rw [zI1, zI1, if_neg (Ne.symm k6), if_neg (Ne.symm k10)]; exact h1
  · unfold LGu; rw [zI1, if_neg (Ne.symm k6)]; exact h2
  · unfold LGf; rw [zI1, zI1, if_neg (Ne.symm k6), if_neg (Ne.symm k7)]; exact h4
  · unfold LGp; rw [zI1, if_neg (Ne.symm k5)]; exact h6
theorem LG0.free1 {z : NSt} (h : LG0 z) (s : Nat) : z.2 12 s < 2 ^ 32 := by
  by_cases q : z.2 12 s = 0
  · omega
  · have := (h.2.2.2.1.1 s q).1
    omega
theorem LG0.freeEx {z : NSt} (h : LG0 z) (h7 : 1 ≤ z.1 7) : ∃ s, s < z.1 6 ∧ z.2 12 s ≠ 0 := by
  have e := h.2.2.2.1.2
  obtain ⟨i, h1, h2⟩ := sm_ex (f := z.2 12) (n := 128) (by omega)
  exact ⟨i, (h.2.2.2.1.1 i h2).2.1, h2⟩
/-- what openEnds leaves -/
def OE (z y : NSt) (s1 s2 : Nat) : Prop := s1 < z.1 6 ∧ s2 < z.1 6 ∧ s1 ≠ s2 ∧ z.2 12 s1 ≠ 0 ∧ z.2 12 s2 ≠ 0 ∧ y.1 8 = 69 + 16 * s1 ∧ y.1 9 = 69 + 16 * s2 ∧ y.1 7 + 2 = z.1 7 ∧ (∀ k, k ≠ 7 → k ≠ 8 → k ≠ 9 → k ≠ 10 → y.1 k = z.1 k) ∧ (∀ a, a ≠ 12 → y.2 a = z.2 a) ∧ Uz y = 16 * z.1 7
theorem openEnds_s {FU : Nat} (hF : 200 < FU) {z : NSt} (h : LG0 z) (h7 : 2 ≤ z.1 7) : Ev (Log_openEnds FU (up z)) fun r => ∃ y s1 s2, r = up y ∧ LG y ∧ OE z y s1 s2 := by
  have hS := h.1
  unfold Log_openEnds
  refine (Log_openSegment_z z hF ⟨by have := hS.1; omega, hS.2.1⟩ hS.2.2 h.free1 (by omega) (h.freeEx (by omega))).bd ?_
  rintro r ⟨s1, g1, g2, rfl⟩
  simp only [nx_eq, up_I]
  have h1 : LG0 (zI (opnZ s1 z) 8 (69 + 16 * s1)) := (opn_LG h g2).setI8 (by decide)
  obtain ⟨z1, e1⟩ : ∃ z1, z1 = zI (opnZ s1 z) 8 (69 + 16 * s1) := ⟨_, rfl⟩
  rw [← e1] at h1 ⊢
  have z17 : z1.1 7 = z.1 7 - 1 := by rw [e1]; rfl
  have z16 : z1.1 6 = z.1 6 := by rw [e1]; rfl
  have hS1 := h1.1
  refine (Log_openSegment_z z1 hF ⟨by have := hS1.1; omega, hS1.2.1⟩ hS1.2.2 h1.free1 (by omega) (h1.freeEx (by omega))).bd ?_
  rintro r ⟨s2, g3, g4, rfl⟩
  have g4' : va_up (z.2 12) s1 0 s2 ≠ 0 := by rw [e1] at g4; exact g4
  have hne : s1 ≠ s2 := fun q => by rw [q, va_up_self] at g4'; exact g4' rfl
  rw [va_up_ne _ _ (Ne.symm hne)] at g4'
  have h2 : LG0 (zI (opnZ s2 z1) 9 (69 + 16 * s2)) := (opn_LG h1 g4).setI8 (by decide)
  obtain ⟨y, ey⟩ : ∃ y, y = zI (opnZ s2 z1) 9 (69 + 16 * s2) := ⟨_, rfl⟩
  rw [← ey] at h2
  have y12 : y.2 12 = va_up (va_up (z.2 12) s1 0) s2 0 := by rw [ey, e1]; rfl
  have ya : ∀ a, a ≠ 12 → y.2 a = z.2 a := fun a ha => by
    rw [ey, zI2, opn_2 _ _ ha, e1, zI2, opn_2 _ _ ha]
  have y8 : y.1 8 = 69 + 16 * s1 := by rw [ey, e1]; rfl
  have y9 : y.1 9 = 69 + 16 * s2 := by rw [ey]; rfl
  have y7 : y.1 7 = z.1 7 - 1 - 1 := by rw [ey, e1]; rfl
  have y6 : y.1 6 = z.1 6 := by rw [ey, e1]; rfl
  obtain ⟨f1, f2, f3⟩ := h.2.2.2.1.1 s1 g2
  obtain ⟨f4, f5, f6⟩ := h.2.2.2.1.1 s2 g4'
  have sg1 : sg (69 + 16 * s1) = s1 := by unfold sg; omega
  have sg2 : sg (69 + 16 * s2) = s2 := by unfold sg; omega
  have hc := h.2.2.1
  refine Ev.ret ⟨y, s1, s2, ?_, ⟨h2, ?_⟩, f2, f5, hne, g2, g4', y8, y9, by omega, fun k k7 k8 k9 k10 => ?_, ya, ?_⟩
  · rw [ey]; exact up_I _ _ _
  · unfold LGe isE
    rw [y8, y9, sg1, sg2, y6, y12, ya 5 (by decide), ya 10 (by decide), ya 11 (by decide)]
    refine ⟨⟨by omega, by omega, ?_, fun b hb hb2 => ?_⟩, ⟨by omega, by omega, va_up_self _ _ _, fun b hb hb2 => ?_⟩, hne, ?_, ?_⟩
    · rw [va_up_ne _ _ hne, va_up_self]
    · have := sg_dec (b := b) (by omega)
      rw [hb2] at this
      rw [← this]
      exact f3 _ (Nat.mod_lt _ (by decide))
    · have := sg_dec (b := b) (by omega)
      rw [hb2] at this
      rw [← this]
      exact f6 _ (Nat.mod_lt _ (by decide))
    · rw [(hc s1 (by have := hS.2.1; omega)).2]
      exact cnt_free h g2 2 (by decide)
    · rw [(hc s2 (by have := hS.2.1; omega)).1]
      exact cnt_free h g4' 1 (by decide)
  · rw [ey, zI1, if_neg k9, opn_1, if_neg k10, if_neg k7, e1, zI1, if_neg k8, opn_1, if_neg k10, if_neg k7]
  · unfold Uz
    rw [y8, y9, y7]
    omega
/-- what was written holds zeros elsewhere, and what no segment reaches is not in use -/
def BS (z : NSt) : Prop := LGw z ∧ (∀ b, 2117 ≤ b → z.2 9 b = 0) ∧ ∀ s, 128 ≤ s → z.2 12 s = 0
theorem LG0.bs {z : NSt} (h : LG0 z) : BS z := by
  have hS := h.1.2.1
  refine ⟨h.2.2.2.2.1, fun b hb => ?_, fun s hs => ?_⟩
  · by_cases q : z.2 9 b = 0
    · exact q
    · have := (h.2.1 b q).2.2.1
      omega
  · by_cases q : z.2 12 s = 0
    · exact q
    · have := (h.2.2.2.1.1 s q).2.1
      omega
theorem logForget_b (FU : Nat) : ∀ (m i n : Nat) (z : NSt), i + m = 128 → m < n → Log_forget_b26 FU n (nI i) (up z) = some (up (zI (zI (zI (zI (zI (zI (zR z 12 (flN (z.2 12) i 128 0)) 6 0) 7 0) 8 0) 9 0) 10 0) 11 0)) := by
  intro m
  induction m with
  | zero =>
    intro i n z h1 h2
    obtain ⟨n, rfl⟩ : ∃ q9, n = q9 + 1 := ⟨n - 1, by omega⟩
    unfold Log_forget_b26
    simp (disch := omega) only [lit_nI, nI_ltI, nI_leI, nI_eq, nI_add, pk_sub, pk_div, nI_64, rdA_z, wrA_z, cpy_z, up1, up_I, nz_n0, nz_n1, zI1, zI2, zR1, zR2, zA1, zA2, Option.bind_some, nx_eq, if_true, if_false, if_pos, if_neg]
    have e : zR z 12 (flN (z.2 12) i 128 0) = z := by
      refine zext (fun _ => rfl) (fun a j => ?_)
      rw [zR2]
      split
      · rename_i q
        rw [q]
        unfold flN
        rw [if_neg (by omega)]
      · rfl
    rw [e]
  | succ m ih =>
    intro i n z h1 h2
    obtain ⟨n, rfl⟩ : ∃ q9, n = q9 + 1 := ⟨n - 1, by omega⟩
    unfold Log_forget_b26
    simp (disch := omega) only [lit_nI, nI_ltI, nI_leI, nI_eq, nI_add, pk_sub, pk_div, nI_64, rdA_z, wrA_z, cpy_z, up1, up_I, nz_n0, nz_n1, zI1, zI2, zR1, zR2, zA1, zA2, Option.bind_some, nx_eq, if_true, if_false, if_pos, if_neg]
    rw [ih (i + 1) n _ (by omega) (by omega)]
    have e : zR (zA z 12 i 0) 12 (flN ((zA z 12 i 0).2 12) (i + 1) 128 0) = zR z 12 (flN (z.2 12) i 128 0) := by
      refine zext (fun _ => rfl) (fun a j => ?_)
      rw [zR2, zR2]
      split
      · show (if i + 1 ≤ j ∧ j < 128 then 0 else if j = i then 0 else z.2 12 j) = if i ≤ j ∧ j < 128 then 0 else z.2 12 j
        split <;> split <;> first | rfl | omega | (split <;> first | rfl | omega)
      · rename_i q
        rw [zA2, if_neg q]
    rw [e]
def fgL (z : NSt) : NSt := zI (zI (zI (zI (zI (zI (zR (zR (zR (zR z 9 (flN (z.2 9) 0 2117 0)) 10 (flN (z.2 10) 0 128 0)) 11 (flN (z.2 11) 0 128 0)) 12 (flN (z.2 12) 0 128 0)) 6 0) 7 0) 8 0) 9 0) 10 0) 11 0
theorem Log_forget_z {FU : Nat} (z : NSt) (hF : 2200 < FU) : Log_forget FU (up z) = some (up (fgL z)) := by
  unfold Log_forget fgL
  rw [show (0 : Int32) = nI 0 from rfl, fill0_z 9 0 z (by show 2117 < FU; omega), Option.bind_some, fill0_z 10 0 _ (by show 128 < FU; omega), Option.bind_some, fill0_z 11 0 _ (by show 128 < FU; omega), Option.bind_some, logForget_b FU 128 0 FU _ (by omega) (by omega)]
  rfl
def fgC (z : NSt) : NSt := zI (zI (zI (zI z 16 0) 17 0) 18 0) 19 0
theorem Chk_forget_z (FU : Nat) (z : NSt) : Chk_forget FU (up z) = some (up (fgC z)) := by
  unfold Chk_forget fgC
  simp (disch := omega) only [lit_nI, nI_ltI, nI_leI, nI_eq, nI_add, pk_sub, pk_div, nI_64, rdA_z, wrA_z, cpy_z, up1, up_I, nz_n0, nz_n1, zI1, zI2, zR1, zR2, zA1, zA2, Option.bind_some, nx_eq, if_true, if_false, if_pos, if_neg]
theorem nI_or {a b : Nat} : nI a ||| nI b = nI (a ||| b) := by
  refine Int32.toBitVec_inj.mp ?_
  rw [Int32.toBitVec_or]
  show BitVec.ofNat 32 a ||| BitVec.ofNat 32 b = BitVec.ofNat 32 (a ||| b)
  rw [BitVec.ofNat_or]
theorem shl1 : ∀ t, t < 32 → (1 : Int32) <<< nI t = nI (2 ^ t) := by decide +kernel
theorem and31' (s : Nat) (h : s < 2 ^ 32) : (nI s &&& 31) &&& 31 = nI (s % 32) := by
  rw [pk_andN h 5 (by decide), pk_andN (by omega) 5 (by decide)]
  congr 1
  omega
theorem shr5 (s : Nat) (h : s < 2 ^ 31) : nI s >>> ((5 : Int32) &&& 31) = nI (s / 32) := pk_shrN h _ 5 (by decide)
/-- what a pack is made of is small -/
def P32 (z : NSt) : Prop := (∀ i, z.2 22 i < 2 ^ 32) ∧ (∀ n, z.2 6 n < 2 ^ 32) ∧ z.1 19 < 2 ^ 32 ∧ z.1 11 + 1 < 2 ^ 32 ∧ z.1 8 < 2 ^ 32
/-- a pack's words -/
def PKC (z : NSt) (f : Nat → Nat) : Prop := f 0 = z.1 11 + 1 ∧ f 1 = z.1 19 ∧ f 2 = z.1 8 ∧ (∀ s, s < z.1 6 → (f (4 + s / 32)).testBit (s % 32) = deadB z s) ∧ (∀ n, n < 2048 → f (64 + n) = z.2 6 n) ∧ f 2112 = z.1 11 + 1 ∧ (∀ k, k < 4 → f (4 + k) < 2 ^ 32) ∧ (P32 z → ∀ i, f i < 2 ^ 32)
theorem fillPack_b (FU : Nat) (z : NSt) (hz : LG0 z) (h8 : z.1 8 < 2 ^ 31) (h9 : z.1 9 < 2 ^ 31) : ∀ (m i n : Nat) (y : NSt), i + m = z.1 6 → m < n → y.1 = z.1 → (∀ a, a ≠ 22 → y.2 a = z.2 a) → y.2 22 0 = z.1 11 + 1 → y.2 22 1 = z.1 19 → y.2 22 2 = z.1 8 → (∀ s, s < 128 → (y.2 22 (4 + s / 32)).testBit (s % 32) = (decide (s < i) && deadB z s)) → (∀ k, k < 4 → y.2 22 (4 + k) < 2 ^ 32) → (P32 z → ∀ i, y.2 22 i < 2 ^ 32) →
    Ev (Chk_fillPack_b48 FU n (nI i) (up y)) fun r => ∃ x, r = up x ∧ x.1 = z.1 ∧ (∀ a, a ≠ 22 → x.2 a = z.2 a) ∧ PKC z (x.2 22) := by
  have hS := hz.1.2.1
  intro m
  induction m with
  | zero =>
    intro i n y h1 h2 y1 ya p0 p1 p2 pb pk p9
    obtain ⟨n, rfl⟩ : ∃ q9, n = q9 + 1 := ⟨n - 1, by omega⟩
    have hi : i = z.1 6 := h1
    subst hi
    have e6 : y.1 6 = z.1 6 := by rw [y1]
    unfold Chk_fillPack_b48 Log_segments Tab_copyInto Log_serial
    simp (disch := omega) only [lit_nI, nI_ltI, nI_leI, nI_eq, nI_add, pk_sub, pk_div, nI_64, rdA_z, wrA_z, cpy_z, up1, up_I, nz_n0, nz_n1, zI1, zI2, zR1, zR2, zA1, zA2, Option.bind_some, nx_eq, if_true, if_false, if_pos, if_neg, e6]
    rw [show lenF 22 = 2176 from rfl]
    simp (disch := omega) only [lit_nI, nI_ltI, nI_leI, nI_eq, nI_add, pk_sub, pk_div, nI_64, rdA_z, wrA_z, cpy_z, up1, up_I, nz_n0, nz_n1, zI1, zI2, zR1, zR2, zA1, zA2, Option.bind_some, nx_eq, if_true, if_false, if_pos, if_neg]
    refine Ev.ret ⟨_, rfl, y1, fun a ha => ?_, ?_, ?_, ?_, fun s hs => ?_, fun k hk => ?_, ?_, fun k hk => ?_, fun q i => ?_⟩
    · rw [zA2, if_neg ha, zR2, if_neg ha]
      exact ya a ha
    · rw [zA2, if_pos rfl, va_up_ne _ _ (by decide), zR2, if_pos rfl]
      unfold va_cpy
      rw [if_neg (by omega)]
      exact p0
    · rw [zA2, if_pos rfl, va_up_ne _ _ (by decide), zR2, if_pos rfl]
      unfold va_cpy
      rw [if_neg (by omega)]
      exact p1
    · rw [zA2, if_pos rfl, va_up_ne _ _ (by decide), zR2, if_pos rfl]
      unfold va_cpy
      rw [if_neg (by omega)]
      exact p2
    · rw [zA2, if_pos rfl, va_up_ne _ _ (by omega), zR2, if_pos rfl]
      unfold va_cpy
      rw [if_neg (by omega), pb s (by omega)]
      simp [hs]
    · rw [zA2, if_pos rfl, va_up_ne _ _ (by omega), zR2, if_pos rfl]
      unfold va_cpy
      rw [if_pos (by omega), ya 6 (by decide), show 0 + (64 + k - 64) = k by omega]
    · rw [zA2, if_pos rfl, va_up_self, y1]
    · rw [zA2, if_pos rfl, va_up_ne _ _ (by omega), zR2, if_pos rfl]
      unfold va_cpy
      rw [if_neg (by omega)]
      exact pk k hk
    · have q' := q
      obtain ⟨q1, q2, q3, q4, q5⟩ := q
      rw [zA2, if_pos rfl]
      unfold va_up
      split
      · rw [y1]; exact q4
      · rw [zR2, if_pos rfl]
        unfold va_cpy
        split
        · rw [ya 6 (by decide)]; exact q2 _
        · exact p9 q' i
  | succ m ih =>
    intro i n y h1 h2 y1 ya p0 p1 p2 pb pk p9
    obtain ⟨n, rfl⟩ : ∃ q9, n = q9 + 1 := ⟨n - 1, by omega⟩
    have e6 : y.1 6 = z.1 6 := by rw [y1]
    have c := hz.cnt16 (s := i) (by omega)
    have hd : deadB y i = deadB z i := by
      unfold deadB endB
      rw [ya 10 (by decide), ya 11 (by decide), y1]
    unfold Chk_fillPack_b48 Log_segments
    rw [Log_isDead_z FU y (by omega) (by rw [y1]; exact h8) (by rw [y1]; exact h9) (by rw [ya 10 (by decide)]; omega) (by rw [ya 11 (by decide)]; omega), hd]
    cases hq : deadB z i
    · simp only [Bool.false_eq_true, if_false]
      unfold Chk_fillPack_b89
      simp (disch := omega) only [lit_nI, nI_ltI, nI_leI, nI_eq, nI_add, pk_sub, pk_div, nI_64, rdA_z, wrA_z, cpy_z, up1, up_I, nz_n0, nz_n1, zI1, zI2, zR1, zR2, zA1, zA2, Option.bind_some, nx_eq, if_true, if_false, if_pos, if_neg, e6]
      refine ih (i + 1) n y (by omega) (by omega) y1 ya p0 p1 p2 (fun s hs => ?_) pk p9
      rw [pb s hs]
      by_cases q : s = i
      · rw [q, hq]; simp
      · have : decide (s < i) = decide (s < i + 1) := by
          congr 1
          exact propext ⟨fun _ => by omega, fun _ => by omega⟩
        rw [this]
    · simp only [if_true]
      rw [shr5 i (by omega), and31' i (by omega), shl1 _ (Nat.mod_lt _ (by decide))]
      unfold Chk_fillPack_b89
      simp (disch := omega) only [lit_nI, nI_ltI, nI_leI, nI_eq, nI_add, pk_sub, pk_div, nI_64, rdA_z, wrA_z, cpy_z, up1, up_I, nz_n0, nz_n1, zI1, zI2, zR1, zR2, zA1, zA2, Option.bind_some, nx_eq, if_true, if_false, if_pos, if_neg, e6, nI_or]
      refine ih (i + 1) n _ (by omega) (by omega) y1 (fun a ha => by rw [zA2, if_neg ha]; exact ya a ha) ?_ ?_ ?_ (fun s hs => ?_) (fun k hk => ?_) (fun q j => ?_)
      · rw [zA2, if_pos rfl, va_up_ne _ _ (by omega)]; exact p0
      · rw [zA2, if_pos rfl, va_up_ne _ _ (by omega)]; exact p1
      · rw [zA2, if_pos rfl, va_up_ne _ _ (by omega)]; exact p2
      · rw [zA2, if_pos rfl]
        by_cases w : s / 32 = i / 32
        · rw [w, va_up_self, Nat.testBit_or, ← w, pb s hs, Nat.testBit_two_pow]
          by_cases q : s = i
          · rw [q, hq]; simp
          · have e1 : decide (s < i) = decide (s < i + 1) := by
              congr 1
              exact propext ⟨fun _ => by omega, fun _ => by omega⟩
            have e2 : decide (i % 32 = s % 32) = false := by
              rw [decide_eq_false_iff_not]
              omega
            rw [e1, e2, Bool.or_false]
        · rw [va_up_ne _ _ (by omega), pb s hs]
          have e1 : decide (s < i) = decide (s < i + 1) := by
            congr 1
            exact propext ⟨fun _ => by omega, fun _ => by omega⟩
          rw [e1]
      · rw [zA2, if_pos rfl]
        unfold va_up
        split
        · have := pk (i / 32) (by omega)
          refine Nat.or_lt_two_pow this ?_
          exact Nat.pow_lt_pow_right (by decide) (Nat.mod_lt _ (by decide))
        · exact pk k hk
      · rw [zA2, if_pos rfl]
        unfold va_up
        split
        · refine Nat.or_lt_two_pow (pk (i / 32) (by omega)) ?_
          exact Nat.pow_lt_pow_right (by decide) (Nat.mod_lt _ (by decide))
        · exact p9 q j
theorem fillPack_s {FU : Nat} (hF : 2200 < FU) {z : NSt} (hz : LG0 z) (h8 : z.1 8 < 2 ^ 31) (h9 : z.1 9 < 2 ^ 31) : Ev (Chk_fillPack FU (up z)) fun r => ∃ x, r = up x ∧ x.1 = z.1 ∧ (∀ a, a ≠ 22 → x.2 a = z.2 a) ∧ PKC z (x.2 22) := by
  unfold Chk_fillPack Log_serial Log_nodeEnd
  rw [show (0 : Int32) = nI 0 from rfl, fill0_z 22 0 z (by show 2176 < FU; omega)]
  simp (disch := omega) only [lit_nI, nI_ltI, nI_leI, nI_eq, nI_add, pk_sub, pk_div, nI_64, rdA_z, wrA_z, cpy_z, up1, up_I, nz_n0, nz_n1, zI1, zI2, zR1, zR2, zA1, zA2, Option.bind_some, nx_eq, if_true, if_false, if_pos, if_neg]
  refine fillPack_b FU z hz h8 h9 (z.1 6) 0 FU _ (by omega) (by have := hz.1.2.1; omega) rfl (fun a ha => ?_) ?_ ?_ ?_ (fun s hs => ?_) (fun k hk => ?_) (fun q i => ?_)
  · simp only [zA2, zR2, if_neg ha]
  · rfl
  · rfl
  · rfl
  · simp only [zA2, zR2, if_true]
    rw [va_up_ne _ _ (by omega), va_up_ne _ _ (by omega), va_up_ne _ _ (by omega)]
    unfold flN
    rw [if_pos ⟨by omega, by show 4 + s / 32 < 2176; omega⟩]
    simp
  · simp only [zA2, zR2, if_true]
    rw [va_up_ne _ _ (by omega), va_up_ne _ _ (by omega), va_up_ne _ _ (by omega)]
    unfold flN
    rw [if_pos ⟨by omega, by show 4 + k < 2176; omega⟩]
    decide
  · obtain ⟨q1, q2, q3, q4, q5⟩ := q
    simp only [zA2, zR2, if_true]
    unfold va_up
    split
    · exact q5
    · split
      · exact q3
      · split
        · exact q4
        · unfold flN
          split
          · decide
          · exact q1 i
