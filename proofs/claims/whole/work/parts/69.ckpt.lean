/-! a pack comes to the device; a commit -/
def pkB (s : Nat) : Nat := 1 + 34 * (s % 2)
theorem pkB_le (s : Nat) : 1 ≤ pkB s ∧ pkB s + 34 ≤ 69 := by
  unfold pkB
  omega
theorem beginOfPack_z (FU : Nat) (g : St) {s : Nat} (h : s < 2 ^ 32) : FF_beginOfPack FU (nI s) g = some (nI (pkB s)) := by
  unfold FF_beginOfPack pkB
  rw [show (1 : Int32) = nI 1 from rfl, pk_andN h 1 (by decide), show (34 : Int32) = nI 34 from rfl, pk_mul, nI_add, Nat.mul_comm (s % 2 ^ 1) 34]
/-- nb blocks of the pack stand at B -/
def SB (z : NSt) (B nb : Nat) (y : NSt) : Prop := y.1 = z.1 ∧ (∀ a, a ≠ 4 → a ≠ 5 → y.2 a = z.2 a) ∧ (∀ b, y.2 5 b = if B ≤ b ∧ b < B + nb then 1 else if B ≤ b ∧ b < B + 34 then 0 else z.2 5 b) ∧ ∀ b j, j < 64 → zW y b j = if B ≤ b ∧ b < B + nb then z.2 22 (64 * (b - B) + j) else if B ≤ b ∧ b < B + 34 then 0 else zW z b j
theorem storeBlocks_b (FU : Nat) (z : NSt) (B NB : Nat) (hB : B + 34 ≤ 69) (hN : NB ≤ 34) : ∀ (m i n : Nat) (y : NSt), i + m = NB → m < n → SB z B i y → Ev (Chk_storeBlocks_b25 FU n (nI NB) (nI B) (nI i) (up y)) fun r => ∃ x, r = up x ∧ SB z B NB x := by
  intro m
  induction m with
  | zero =>
    intro i n y h1 h2 hy
    obtain ⟨n, rfl⟩ : ∃ q9, n = q9 + 1 := ⟨n - 1, by omega⟩
    have hi : i = NB := h1
    subst hi
    unfold Chk_storeBlocks_b25
    simp (disch := omega) only [lit_nI, nI_ltI, nI_leI, nI_eq, nI_add, pk_sub, pk_div, nI_64, rdA_z, wrA_z, cpy_z, up1, up_I, nz_n0, nz_n1, zI1, zI2, zR1, zR2, zA1, zA2, Option.bind_some, nx_eq, if_true, if_false, if_pos, if_neg]
    exact Ev.ret ⟨y, rfl, hy⟩
  | succ m ih =>
    intro i n y h1 h2 hy
    obtain ⟨n, rfl⟩ : ∃ q9, n = q9 + 1 := ⟨n - 1, by omega⟩
    unfold Chk_storeBlocks_b25
    simp (disch := omega) only [lit_nI, nI_ltI, nI_leI, nI_eq, nI_add, pk_sub, pk_div, nI_64, rdA_z, wrA_z, cpy_z, up1, up_I, nz_n0, nz_n1, zI1, zI2, zR1, zR2, zA1, zA2, Option.bind_some, nx_eq, if_true, if_false, if_pos, if_neg]
    obtain ⟨q1, q2, q3, q4⟩ := hy
    have hw : y.2 5 (B + i) = 0 := by
      rw [q3, if_neg (by omega), if_pos (by omega)]
    rw [Dev_program_e FU y 22 (b := B + i) (k := 64 * i) (by omega) (by show 64 * i + 64 ≤ 2176; omega) hw]
    simp (disch := omega) only [lit_nI, nI_ltI, nI_leI, nI_eq, nI_add, pk_sub, pk_div, nI_64, rdA_z, wrA_z, cpy_z, up1, up_I, nz_n0, nz_n1, zI1, zI2, zR1, zR2, zA1, zA2, Option.bind_some, nx_eq, if_true, if_false, if_pos, if_neg]
    refine ih (i + 1) n _ (by omega) (by omega) ⟨q1, fun a x4 x5 => ?_, fun b => ?_, fun b j hj => ?_⟩
    · rw [prg_2 _ _ _ _ x4 x5]; exact q2 a x4 x5
    · rw [prg_5]
      unfold va_up
      by_cases e : b = B + i
      · rw [if_pos e, if_pos (by omega)]
      · rw [if_neg e, q3]
        by_cases e2 : B ≤ b ∧ b < B + i
        · rw [if_pos e2, if_pos (by omega)]
        · rw [if_neg e2, if_neg (c := B ≤ b ∧ b < B + (i + 1)) (by omega)]
    · have q4' := q4 b j hj
      unfold zW at q4' ⊢
      rw [prg_4]
      unfold va_cpy
      by_cases e : b = B + i
      · rw [if_pos (by omega), if_pos (by omega), q2 22 (by decide) (by decide)]
        exact congrArg (z.2 22) (by omega)
      · rw [if_neg (by omega), q4']
        by_cases e2 : B ≤ b ∧ b < B + i
        · rw [if_pos e2, if_pos (by omega)]
        · rw [if_neg e2, if_neg (c := B ≤ b ∧ b < B + (i + 1)) (by omega)]
theorem storeBlocks_s {FU : Nat} (hF : 140000 < FU) {z : NSt} (hw : LGw z) (hs : z.1 11 + 1 < 2 ^ 31) {nb : Nat} (hn : nb ≤ 34) : Ev (Chk_storeBlocks FU (nI nb) (up z)) fun r => ∃ x, r = up x ∧ SB z (pkB (z.1 11 + 1)) nb x := by
  have hB := pkB_le (z.1 11 + 1)
  unfold Chk_storeBlocks Log_serial
  simp (disch := omega) only [lit_nI, nI_ltI, nI_leI, nI_eq, nI_add, pk_sub, pk_div, nI_64, rdA_z, wrA_z, cpy_z, up1, up_I, nz_n0, nz_n1, zI1, zI2, zR1, zR2, zA1, zA2, Option.bind_some, nx_eq, if_true, if_false, if_pos, if_neg]
  rw [beginOfPack_z FU _ (by omega), Option.bind_some, Dev_erase_z z hF (by omega) (fun b => by have := hw.1 b; omega), Option.bind_some]
  refine storeBlocks_b FU z _ nb hB.2 hn nb 0 FU _ (by omega) (by omega) ⟨rfl, fun a x4 x5 => ers_2 _ _ _ x4 x5, fun b => ?_, fun b j hj => ?_⟩
  · rw [ers_5, if_neg (c := pkB (z.1 11 + 1) ≤ b ∧ b < pkB (z.1 11 + 1) + 0) (by omega)]
  · rw [ers_W _ _ _ _ _ hj, if_neg (c := pkB (z.1 11 + 1) ≤ b ∧ b < pkB (z.1 11 + 1) + 0) (by omega)]
    by_cases q : pkB (z.1 11 + 1) ≤ b ∧ b < pkB (z.1 11 + 1) + 34
    · rw [if_pos q]
      by_cases w : z.2 5 b = 0
      · rw [if_neg (fun v => v.2.2 w)]
        exact hw.2 b w j hj
      · rw [if_pos ⟨q.1, q.2, w⟩]
    · rw [if_neg q, if_neg (fun v => q ⟨v.1, v.2.1⟩)]
theorem SB.lg0 {z y : NSt} {B nb : Nat} (h : SB z B nb y) (hB : B + 34 ≤ 69) (hn : nb ≤ 34) (hz : LG0 z) : LG0 y := by
  obtain ⟨q1, q2, q3, q4⟩ := h
  obtain ⟨h1, h2, h3, ⟨h4, h4'⟩, ⟨h5, h5'⟩, h6⟩ := hz
  have r9 := q2 9 (by decide) (by decide)
  have r10 := q2 10 (by decide) (by decide)
  have r11 := q2 11 (by decide) (by decide)
  have r12 := q2 12 (by decide) (by decide)
  have w5 : ∀ b, 69 ≤ b → y.2 5 b = z.2 5 b := fun b hb => by rw [q3, if_neg (by omega), if_neg (by omega)]
  refine ⟨?_, fun b hb => ?_, ?_, ⟨fun s hs => ?_, ?_⟩, ⟨fun b => ?_, fun b hb i hi => ?_⟩, ?_⟩
  · unfold LGs; rw [q1]; exact h1
  · rw [r9] at hb ⊢
    obtain ⟨u1, u2, u3, u4⟩ := h2 b hb
    rw [q1, w5 b u2]
    exact ⟨u1, u2, u3, u4⟩
  · unfold LGc; rw [r9, r10, r11]; exact h3
  · rw [r12] at hs ⊢
    obtain ⟨u1, u2, u3⟩ := h4 s hs
    rw [q1]
    exact ⟨u1, u2, fun j hj => by rw [w5 _ (by omega)]; exact u3 j hj⟩
  · rw [q1, r12]; exact h4'
  · rw [q3]
    split
    · omega
    · split
      · omega
      · exact h5 b
  · rw [q3] at hb
    rw [q4 b i hi]
    split
    · rename_i w; rw [if_pos w] at hb; omega
    · rename_i w
      rw [if_neg w] at hb
      split
      · rfl
      · rename_i v
        rw [if_neg v] at hb
        exact h5' b hb i hi
  · unfold LGp; rw [r10, r11, q1]; exact h6
/-- what a commit leaves -/
def CM (z y : NSt) : Prop := (∀ k, k ≠ 7 → k ≠ 11 → y.1 k = z.1 k) ∧ y.1 11 = z.1 11 + 1 ∧ (∀ a, a ≠ 4 → a ≠ 5 → a ≠ 12 → a ≠ 22 → y.2 a = z.2 a) ∧ (∀ s, y.2 12 s = if s < z.1 6 ∧ deadB z s = true then 1 else z.2 12 s) ∧
  (∀ b, 69 ≤ b → ¬ (sg b < z.1 6 ∧ deadB z (sg b) = true) → y.2 5 b = z.2 5 b ∧ ∀ i, i < 64 → zW y b i = zW z b i) ∧
  (∀ b, b < 69 → ¬ (pkB (z.1 11 + 1) ≤ b ∧ b < pkB (z.1 11 + 1) + 34) → y.2 5 b = z.2 5 b ∧ ∀ i, i < 64 → zW y b i = zW z b i) ∧
  ∃ f, PKC z f ∧ (∀ i j, i < 34 → j < 64 → zW y (pkB (z.1 11 + 1) + i) j = f (64 * i + j)) ∧ y.2 22 = f
theorem commit_s0 {FU : Nat} (hF : 140000 < FU) {z : NSt} (hz : LG0 z) (h8 : z.1 8 < 2 ^ 31) (h9 : z.1 9 < 2 ^ 31) (hs : z.1 11 + 1 < 2 ^ 31) : Ev (Chk_commit FU (up z)) fun r => ∃ y, r = up y ∧ LG0 y ∧ CM z y := by
  have hB := pkB_le (z.1 11 + 1)
  unfold Chk_commit
  refine (fillPack_s (by omega) hz h8 h9).bd ?_
  rintro _ ⟨x, rfl, x1, xa, hpk⟩
  have hx : LG0 x := by
    obtain ⟨h1, h2, h3, h4, h5, h6⟩ := hz
    refine ⟨?_, ?_, ?_, ?_, ?_, ?_⟩
    · unfold LGs; rw [x1]; exact h1
    · unfold LGu; rw [xa 9 (by decide), xa 5 (by decide), x1]; exact h2
    · unfold LGc; rw [xa 9 (by decide), xa 10 (by decide), xa 11 (by decide)]; exact h3
    · unfold LGf; rw [xa 12 (by decide), xa 5 (by decide), x1]; exact h4
    · unfold LGw zW; rw [xa 5 (by decide), xa 4 (by decide)]; exact h5
    · unfold LGp; rw [xa 10 (by decide), xa 11 (by decide), x1]; exact h6
  rw [show (34 : Int32) = nI 34 from rfl]
  refine (storeBlocks_s (nb := 34) hF hx.2.2.2.2.1 (by rw [x1]; exact hs) (Nat.le_refl _)).bd ?_
  rintro _ ⟨w, rfl, hw⟩
  have hw0 := hw.lg0 (by rw [x1]; exact hB.2) (Nat.le_refl _) hx
  obtain ⟨w1, wa, w5, wW⟩ := hw
  rw [x1] at w1 w5 wW
  unfold Log_serial Log_setSerial
  simp (disch := omega) only [lit_nI, nI_ltI, nI_leI, nI_eq, nI_add, pk_sub, pk_div, nI_64, rdA_z, wrA_z, cpy_z, up1, up_I, nz_n0, nz_n1, zI1, zI2, zR1, zR2, zA1, zA2, Option.bind_some, nx_eq, if_true, if_false, if_pos, if_neg]
  have hv0 : LG0 (zI w 11 (w.1 11 + 1)) := hw0.setI8 (by decide)
  obtain ⟨v, ev⟩ : ∃ v, v = zI w 11 (w.1 11 + 1) := ⟨_, rfl⟩
  rw [← ev] at hv0 ⊢
  have v1 : ∀ k, k ≠ 11 → v.1 k = z.1 k := fun k hk => by rw [ev, zI1, if_neg hk, w1]
  have v11 : v.1 11 = z.1 11 + 1 := by rw [ev, zI1, if_pos rfl, w1]
  have va : ∀ a, a ≠ 4 → a ≠ 5 → a ≠ 22 → v.2 a = z.2 a := fun a x4 x5 x22 => by rw [ev, zI2, wa a x4 x5, xa a x22]
  have v5 : ∀ b, 69 ≤ b → v.2 5 b = z.2 5 b ∧ ∀ i, i < 64 → zW v b i = zW z b i := fun b hb => by
    have e : ∀ i, zW v b i = zW w b i := fun i => by rw [ev]; rfl
    have e5 : v.2 5 b = w.2 5 b := by rw [ev]; rfl
    rw [e5, w5, if_neg (by omega), if_neg (by omega), xa 5 (by decide)]
    refine ⟨rfl, fun i hi => ?_⟩
    rw [e, wW b i hi, if_neg (by omega), if_neg (by omega)]
    unfold zW
    rw [xa 4 (by decide)]
  have hd : deadB v = deadB z := by
    funext s
    unfold deadB endB
    rw [va 10 (by decide) (by decide) (by decide), va 11 (by decide) (by decide) (by decide), v1 8 (by decide), v1 9 (by decide)]
  refine (freeDead_s hF hv0 (by rw [v1 8 (by decide)]; exact h8) (by rw [v1 9 (by decide)]; exact h9)).bd ?_
  rintro _ ⟨y, rfl, hy0, ⟨y1, ya⟩, y12, y5, yW⟩
  rw [hd, v1 6 (by decide)] at y12 y5 yW
  refine Ev.ret ⟨y, rfl, hy0, fun k k7 k11 => by rw [y1 k k7, v1 k k11], by rw [y1 11 (by decide), v11], fun a x4 x5 x12 x22 => by rw [ya a x4 x5 x12, va a x4 x5 x22], fun s => by rw [y12, va 12 (by decide) (by decide) (by decide)], fun b hb hnd => ?_, fun b hb hnp => ?_, x.2 22, hpk, fun i j hi hj => ?_, by rw [ya 22 (by decide) (by decide) (by decide), ev, zI2, wa 22 (by decide) (by decide)]⟩
  · obtain ⟨k1, k2⟩ := yW b (fun q => hnd q.2)
    obtain ⟨k3, k4⟩ := v5 b hb
    exact ⟨by rw [k1, k3], fun i hi => by rw [k2 i hi, k4 i hi]⟩
  · obtain ⟨k1, k2⟩ := yW b (fun q => by omega)
    have e : ∀ i, zW v b i = zW w b i := fun i => by rw [ev]; rfl
    have e5 : v.2 5 b = w.2 5 b := by rw [ev]; rfl
    refine ⟨by rw [k1, e5, w5, if_neg hnp, if_neg hnp, xa 5 (by decide)], fun i hi => ?_⟩
    rw [k2 i hi, e, wW b i hi, if_neg hnp, if_neg hnp]
    unfold zW
    rw [xa 4 (by decide)]
  · obtain ⟨k1, k2⟩ := yW (pkB (z.1 11 + 1) + i) (fun q => by omega)
    have e : zW v (pkB (z.1 11 + 1) + i) j = zW w (pkB (z.1 11 + 1) + i) j := by rw [ev]; rfl
    rw [k2 j hj, e, wW _ j hj, if_pos (by omega)]
    exact congrArg (x.2 22) (by omega)
theorem commit_ends {z y : NSt} (hz : LG z) (h0 : LG0 y) (h : CM z y) : LG y := by
  obtain ⟨h1, h11, ha, h12, hb, -, -⟩ := h
  obtain ⟨⟨e1, e2, e3, e4⟩, ⟨f1, f2, f3, f4⟩, g1, g2, g3⟩ := hz.2
  have hS := hz.1.1.2.1
  have nd8 : deadB z (sg (z.1 8)) = false := by
    unfold deadB endB
    simp only [Bool.and_eq_false_iff, Bool.not_eq_false', decide_eq_true_eq]
    exact Or.inr (Or.inl ⟨e1, by omega, trivial⟩)
  have nd9 : deadB z (sg (z.1 9)) = false := by
    unfold deadB endB
    simp only [Bool.and_eq_false_iff, Bool.not_eq_false', decide_eq_true_eq]
    exact Or.inr (Or.inr ⟨f1, by omega, trivial⟩)
  refine ⟨h0, ?_⟩
  unfold LGe isE
  rw [h1 8 (by decide) (by decide), h1 9 (by decide) (by decide), h1 6 (by decide) (by decide), ha 10 (by decide) (by decide) (by decide) (by decide), ha 11 (by decide) (by decide) (by decide) (by decide), h12, h12, nd8, nd9]
  refine ⟨⟨e1, e2, ?_, fun b q1 q2 => ?_⟩, ⟨f1, f2, ?_, fun b q1 q2 => ?_⟩, g1, g2, g3⟩
  · rw [if_neg (fun q => by simp at q)]; exact e3
  · rw [(hb b (by omega) (fun q => by rw [q2, nd8] at q; simp at q)).1]
    exact e4 b q1 q2
  · rw [if_neg (fun q => by simp at q)]; exact f3
  · rw [(hb b (by omega) (fun q => by rw [q2, nd9] at q; simp at q)).1]
    exact f4 b q1 q2
theorem commit_s {FU : Nat} (hF : 140000 < FU) {z : NSt} (hz : LG z) (hs : z.1 11 + 1 < 2 ^ 31) : Ev (Chk_commit FU (up z)) fun r => ∃ y, r = up y ∧ LG y ∧ CM z y := by
  have h8 := hz.end8
  have h9 := hz.end9
  refine (commit_s0 hF hz.1 (by omega) (by omega) hs).mono ?_
  rintro r ⟨y, e, h1, h2⟩
  exact ⟨y, e, commit_ends hz h1 h2, h2⟩
