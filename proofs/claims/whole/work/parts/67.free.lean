/-! segments become free -/
def endB (z : NSt) (s : Nat) : Bool := decide ((69 ≤ z.1 8 ∧ z.1 8 < 2117 ∧ s = sg (z.1 8)) ∨ (69 ≤ z.1 9 ∧ z.1 9 < 2117 ∧ s = sg (z.1 9)))
def deadB (z : NSt) (s : Nat) : Bool := decide (z.2 10 s = 0) && decide (z.2 11 s = 0) && !endB z s
theorem n1_ne (s : Nat) (h : s < 2 ^ 31) : ¬ nI s = -1 := by
  intro q
  have := nI_pos h
  rw [q] at this
  exact this (by decide)
theorem Log_isEnd_z (FU : Nat) (z : NSt) {s : Nat} (hs : s < 2 ^ 31) (h8 : z.1 8 < 2 ^ 31) (h9 : z.1 9 < 2 ^ 31) : Log_isEnd FU (nI s) (up z) = some (nI (if endB z s = true then 1 else 0)) := by
  unfold Log_isEnd endB
  simp only [up1, decide_eq_true_eq]
  have key : ∀ p, p < 2 ^ 31 → ∃ v, FF_segmentOf FU (nI p) (up z) = some v ∧ (nI s = v ↔ (69 ≤ p ∧ p < 2117 ∧ s = sg p)) := by
    intro p hp
    by_cases h : 69 ≤ p ∧ p < 2117
    · refine ⟨_, segmentOf_in FU _ h.1 h.2, ?_⟩
      have := sg_lt h.1 h.2
      rw [nI_eq hs (by omega)]
      exact ⟨fun q => ⟨h.1, h.2, q⟩, fun q => q.2.2⟩
    · refine ⟨_, segmentOf_out FU _ hp (by omega), ?_⟩
      exact ⟨fun q => absurd q (n1_ne s hs), fun q => absurd ⟨q.1, q.2.1⟩ h⟩
  obtain ⟨v8, e8, i8⟩ := key _ h8
  obtain ⟨v9, e9, i9⟩ := key _ h9
  rw [e8, Option.bind_some]
  by_cases q : nI s = v8
  · rw [if_pos q, if_pos (Or.inl (i8.mp q))]
    rfl
  · rw [if_neg q, e9, Option.bind_some]
    by_cases w : nI s = v9
    · rw [if_pos w, if_pos (Or.inr (i9.mp w))]
      rfl
    · rw [if_neg w, if_neg (by
        rintro (t | t)
        · exact q (i8.mpr t)
        · exact w (i9.mpr t))]
      rfl
theorem Log_nodesIn_z (FU : Nat) (z : NSt) {s : Nat} (hs : s < 128) : Log_nodesIn FU (nI s) (up z) = some (nI (z.2 10 s)) := by
  unfold Log_nodesIn
  simp (disch := omega) only [lit_nI, nI_ltI, nI_leI, nI_eq, nI_add, pk_sub, pk_div, nI_64, rdA_z, wrA_z, cpy_z, up1, up_I, nz_n0, nz_n1, zI1, zI2, zR1, zR2, zA1, zA2, Option.bind_some, nx_eq, if_true, if_false, if_pos, if_neg]
theorem Log_dataIn_z (FU : Nat) (z : NSt) {s : Nat} (hs : s < 128) : Log_dataIn FU (nI s) (up z) = some (nI (z.2 11 s)) := by
  unfold Log_dataIn
  simp (disch := omega) only [lit_nI, nI_ltI, nI_leI, nI_eq, nI_add, pk_sub, pk_div, nI_64, rdA_z, wrA_z, cpy_z, up1, up_I, nz_n0, nz_n1, zI1, zI2, zR1, zR2, zA1, zA2, Option.bind_some, nx_eq, if_true, if_false, if_pos, if_neg]
theorem Log_isDead_z (FU : Nat) (z : NSt) {s : Nat} (hs : s < 128) (h8 : z.1 8 < 2 ^ 31) (h9 : z.1 9 < 2 ^ 31) (hn : z.2 10 s < 2 ^ 30) (hd : z.2 11 s < 2 ^ 30) : Log_isDead FU (nI s) (up z) = some (nI (if deadB z s = true then 1 else 0)) := by
  unfold Log_isDead
  rw [Log_nodesIn_z FU z hs, Option.bind_some, Log_dataIn_z FU z hs, Option.bind_some, Log_isEnd_z FU z (by omega) h8 h9]
  unfold deadB
  by_cases h1 : z.2 10 s = 0
  · by_cases h2 : z.2 11 s = 0
    · cases h3 : endB z s
      · simp only [h1, h2]
        simp (disch := omega) only [lit_nI, nI_ltI, nI_leI, nI_eq, nI_add, pk_sub, pk_div, nI_64, rdA_z, wrA_z, cpy_z, up1, up_I, nz_n0, nz_n1, zI1, zI2, zR1, zR2, zA1, zA2, Option.bind_some, nx_eq, if_true, if_false, if_pos, if_neg]
        simp
      · simp only [h1, h2]
        simp (disch := omega) only [lit_nI, nI_ltI, nI_leI, nI_eq, nI_add, pk_sub, pk_div, nI_64, rdA_z, wrA_z, cpy_z, up1, up_I, nz_n0, nz_n1, zI1, zI2, zR1, zR2, zA1, zA2, Option.bind_some, nx_eq, if_true, if_false, if_pos, if_neg]
        simp
    · simp (disch := omega) only [lit_nI, nI_ltI, nI_leI, nI_eq, nI_add, pk_sub, pk_div, nI_64, rdA_z, wrA_z, cpy_z, up1, up_I, nz_n0, nz_n1, zI1, zI2, zR1, zR2, zA1, zA2, Option.bind_some, nx_eq, if_true, if_false, if_pos, if_neg]
      simp [h2]
  · simp (disch := omega) only [lit_nI, nI_ltI, nI_leI, nI_eq, nI_add, pk_sub, pk_div, nI_64, rdA_z, wrA_z, cpy_z, up1, up_I, nz_n0, nz_n1, zI1, zI2, zR1, zR2, zA1, zA2, Option.bind_some, nx_eq, if_true, if_false, if_pos, if_neg]
    simp [h1]
def sfZ (s : Nat) (z : NSt) : NSt := if z.2 12 s = 0 then zI (zA (ersZ (69 + 16 * s) 16 z) 12 s 1) 7 (z.1 7 + 1) else z
theorem Log_setFree_z {FU : Nat} (z : NSt) (hF : 140000 < FU) {s : Nat} (hs : s < z.1 6) (hS : z.1 6 ≤ 128) (hf : ∀ s, z.2 12 s < 2 ^ 32) (hw : ∀ b, z.2 5 b < 2 ^ 32) : Log_setFree FU (nI s) (up z) = some (up (sfZ s z)) := by
  unfold Log_setFree sfZ
  simp (disch := omega) only [lit_nI, nI_ltI, nI_leI, nI_eq, nI_add, pk_sub, pk_div, nI_64, rdA_z, wrA_z, cpy_z, up1, up_I, nz_n0, nz_n1, zI1, zI2, zR1, zR2, zA1, zA2, Option.bind_some, nx_eq, if_true, if_false, if_pos, if_neg, nI_inj (hf _)]
  by_cases h : z.2 12 s = 0
  · rw [if_pos h, if_pos h, firstOf_z, Option.bind_some, Dev_erase_z z hF (by omega) hw]
    simp (disch := omega) only [lit_nI, nI_ltI, nI_leI, nI_eq, nI_add, pk_sub, pk_div, nI_64, rdA_z, wrA_z, cpy_z, up1, up_I, nz_n0, nz_n1, zI1, zI2, zR1, zR2, zA1, zA2, Option.bind_some, nx_eq, if_true, if_false, if_pos, if_neg]
    rfl
  · rw [if_neg h, if_neg h]
theorem ers_1 (b n : Nat) (z : NSt) : (ersZ b n z).1 = z.1 := rfl
theorem ers_2 (b n : Nat) (z : NSt) {a : Nat} (h4 : a ≠ 4) (h5 : a ≠ 5) : (ersZ b n z).2 a = z.2 a := by
  unfold ersZ
  rw [zR2, if_neg h5, zR2, if_neg h4]
theorem ers_5 (b n : Nat) (z : NSt) (c : Nat) : (ersZ b n z).2 5 c = if b ≤ c ∧ c < b + n then 0 else z.2 5 c := rfl
theorem ers_W (b n : Nat) (z : NSt) (c i : Nat) (hi : i < 64) : zW (ersZ b n z) c i = if b ≤ c ∧ c < b + n ∧ z.2 5 c ≠ 0 then 0 else zW z c i := by
  have e : (64 * c + i) / 64 = c := by omega
  show (if b ≤ (64 * c + i) / 64 ∧ (64 * c + i) / 64 < b + n ∧ z.2 5 ((64 * c + i) / 64) ≠ 0 then 0 else z.2 4 (64 * c + i)) = _
  rw [e]
  rfl
/-- the same but for the words, what is written, and what is free -/
def FRq (z y : NSt) : Prop := (∀ k, k ≠ 7 → y.1 k = z.1 k) ∧ (∀ a, a ≠ 4 → a ≠ 5 → a ≠ 12 → y.2 a = z.2 a)
def inS (b s : Nat) : Prop := 69 ≤ b ∧ sg b = s
theorem sf_LG0 {z : NSt} (h : LG0 z) {s : Nat} (hs : s < z.1 6) (h10 : z.2 10 s = 0) (h11 : z.2 11 s = 0) :
    LG0 (sfZ s z) ∧ FRq z (sfZ s z) ∧ (sfZ s z).2 12 = va_up (z.2 12) s 1 ∧ (∀ b, inS b s → (sfZ s z).2 5 b = 0) ∧ ∀ b, ¬ inS b s → (sfZ s z).2 5 b = z.2 5 b ∧ ∀ i, i < 64 → zW (sfZ s z) b i = zW z b i := by
  obtain ⟨⟨a1, a2, a3⟩, hu, hc, ⟨hf1, hf2⟩, ⟨hw1, hw2⟩, hp⟩ := id h
  unfold sfZ
  by_cases h12 : z.2 12 s = 0
  · rw [if_pos h12]
    have hin : ∀ b, inS b s ↔ (69 + 16 * s ≤ b ∧ b < 69 + 16 * s + 16) := by
      intro b
      unfold inS sg
      omega
    have hcs := hc s (by omega)
    have hno : ∀ b, inS b s → z.2 9 b = 0 := by
      intro b hb
      have hb2 := (hin b).mp hb
      have hz : ∀ k, cntF (z.2 9) k s = 0 → z.2 9 b ≠ k := by
        intro k hk q
        unfold cntF at hk
        have := sm_z hk (i := b - (69 + 16 * s)) (by omega)
        rw [show 69 + 16 * s + (b - (69 + 16 * s)) = b by omega, if_pos q] at this
        omega
      by_cases q : z.2 9 b = 0
      · exact q
      · rcases (hu b q).1 with w | w
        · exact absurd w (hz 1 (by omega))
        · exact absurd w (hz 2 (by omega))
    obtain ⟨Y, eY⟩ : ∃ Y, Y = zI (zA (ersZ (69 + 16 * s) 16 z) 12 s 1) 7 (z.1 7 + 1) := ⟨_, rfl⟩
    rw [← eY]
    have Y12 : Y.2 12 = va_up (z.2 12) s 1 := by
      rw [eY, zI2, zA2, if_pos rfl, ers_2 _ _ _ (by decide) (by decide)]
    have Yn : ∀ a, a ≠ 4 → a ≠ 5 → a ≠ 12 → Y.2 a = z.2 a := fun a x4 x5 x12 => by
      rw [eY, zI2, zA2, if_neg x12, ers_2 _ _ _ x4 x5]
    have Y1 : ∀ k, k ≠ 7 → Y.1 k = z.1 k := fun k hk => by rw [eY, zI1, if_neg hk]; rfl
    have Y7 : Y.1 7 = z.1 7 + 1 := by rw [eY, zI1, if_pos rfl]
    have Y5 : ∀ b, Y.2 5 b = if 69 + 16 * s ≤ b ∧ b < 69 + 16 * s + 16 then 0 else z.2 5 b := fun b => by
      rw [eY, zI2, zA2, if_neg (by decide), ers_5]
    have YW : ∀ b i, i < 64 → zW Y b i = if 69 + 16 * s ≤ b ∧ b < 69 + 16 * s + 16 ∧ z.2 5 b ≠ 0 then 0 else zW z b i := fun b i hi => by
      have : zW Y b i = zW (ersZ (69 + 16 * s) 16 z) b i := by
        unfold zW
        rw [eY, zI2, zA2, if_neg (by decide)]
      rw [this, ers_W _ _ _ _ _ hi]
    refine ⟨⟨⟨?_, ?_, ?_⟩, fun b hb => ?_, ?_, ⟨fun t ht => ?_, ?_⟩, ⟨fun b => ?_, fun b hb i hi => ?_⟩, ?_⟩, ⟨Y1, Yn⟩, Y12, fun b hb => ?_, fun b hb => ⟨?_, fun i hi => ?_⟩⟩
    · rw [Y1 6 (by decide)]; exact a1
    · rw [Y1 6 (by decide)]; exact a2
    · rw [Y1 6 (by decide), Y1 10 (by decide)]; exact a3
    · rw [Yn 9 (by decide) (by decide) (by decide)] at hb ⊢
      rw [Y1 6 (by decide), Y5 b, if_neg (fun q => hb (hno b ((hin b).mpr q)))]
      exact hu b hb
    · unfold LGc
      rw [Yn 9 (by decide) (by decide) (by decide), Yn 10 (by decide) (by decide) (by decide), Yn 11 (by decide) (by decide) (by decide)]
      exact hc
    · rw [Y12] at ht ⊢
      rw [Y1 6 (by decide)]
      by_cases q : t = s
      · subst q
        rw [va_up_self]
        exact ⟨rfl, hs, fun j hj => by rw [Y5, if_pos (by omega)]⟩
      · rw [va_up_ne _ _ q] at ht ⊢
        obtain ⟨g1, g2, g3⟩ := hf1 t ht
        exact ⟨g1, g2, fun j hj => by
          rw [Y5]
          split
          · rfl
          · exact g3 j hj⟩
    · rw [Y7, Y12]
      have := sm_up (f := z.2 12) (i := s) (v := 1) (n := 128) (by omega)
      omega
    · rw [Y5]
      split
      · omega
      · exact hw1 b
    · rw [YW b i hi]
      split
      · rfl
      · rename_i q
        rw [Y5] at hb
        refine hw2 b ?_ i hi
        by_cases w : z.2 5 b = 0
        · exact w
        · rw [if_neg (fun v => q ⟨v.1, v.2, w⟩)] at hb
          exact hb
    · unfold LGp
      rw [Yn 10 (by decide) (by decide) (by decide), Yn 11 (by decide) (by decide) (by decide), Y1 5 (by decide)]
      exact hp
    · rw [Y5, if_pos ((hin b).mp hb)]
    · rw [Y5, if_neg (fun q => hb ((hin b).mpr q))]
    · rw [YW b i hi, if_neg (fun q => hb ((hin b).mpr ⟨q.1, q.2.1⟩))]
  · rw [if_neg h12]
    have hfs := hf1 s h12
    refine ⟨h, ⟨fun _ _ => rfl, fun _ _ _ _ => rfl⟩, (up_same hfs.1).symm, fun b hb => ?_, fun b _ => ⟨rfl, fun _ _ => rfl⟩⟩
    have hd := sg_dec hb.1
    rw [hb.2] at hd
    rw [← hd]
    exact hfs.2.2 _ (Nat.mod_lt _ (by decide))
/-- what freeing those of a kind below i leaves -/
def FRD (q : Nat → Bool) (i : Nat) (z y : NSt) : Prop :=
  LG0 y ∧ FRq z y ∧ (∀ s, y.2 12 s = if s < i ∧ q s = true then 1 else z.2 12 s) ∧ (∀ b, 69 ≤ b → sg b < i → q (sg b) = true → y.2 5 b = 0) ∧ ∀ b, ¬ (69 ≤ b ∧ sg b < i ∧ q (sg b) = true) → y.2 5 b = z.2 5 b ∧ ∀ i, i < 64 → zW y b i = zW z b i
theorem FRD.zero {q : Nat → Bool} {z : NSt} (h : LG0 z) : FRD q 0 z z := ⟨h, ⟨fun _ _ => rfl, fun _ _ _ _ => rfl⟩, fun s => by rw [if_neg (by omega)], fun b _ h => by omega, fun b _ => ⟨rfl, fun _ _ => rfl⟩⟩
theorem FRD.skip {q : Nat → Bool} {i : Nat} {z y : NSt} (h : FRD q i z y) (hq : q i = false) : FRD q (i + 1) z y := by
  obtain ⟨h1, h2, h3, h4, h5⟩ := h
  refine ⟨h1, h2, fun s => ?_, fun b g1 g2 g3 => ?_, fun b hb => ?_⟩
  · rw [h3]
    by_cases w : s < i ∧ q s = true
    · rw [if_pos w, if_pos ⟨by omega, w.2⟩]
    · rw [if_neg w, if_neg (fun v => w ⟨by
        have : s ≠ i := fun e => by rw [e, hq] at v; exact absurd v.2 (by decide)
        omega, v.2⟩)]
  · refine h4 b g1 ?_ g3
    have : sg b ≠ i := fun e => by rw [e, hq] at g3; exact absurd g3 (by decide)
    omega
  · exact h5 b (fun v => hb ⟨v.1, by omega, v.2.2⟩)
theorem FRD.step {q : Nat → Bool} {i : Nat} {z y : NSt} (h : FRD q i z y) (hi : i < z.1 6) (hq : q i = true) (h10 : z.2 10 i = 0) (h11 : z.2 11 i = 0) : FRD q (i + 1) z (sfZ i y) := by
  obtain ⟨h1, ⟨h2, h2'⟩, h3, h4, h5⟩ := h
  obtain ⟨g1, ⟨g2, g2'⟩, g3, g4, g5⟩ := sf_LG0 h1 (s := i) (by rw [h2 6 (by decide)]; exact hi) (by rw [h2' 10 (by decide) (by decide) (by decide)]; exact h10) (by rw [h2' 11 (by decide) (by decide) (by decide)]; exact h11)
  refine ⟨g1, ⟨fun k hk => by rw [g2 k hk, h2 k hk], fun a x4 x5 x12 => by rw [g2' a x4 x5 x12, h2' a x4 x5 x12]⟩, fun s => ?_, fun b w1 w2 w3 => ?_, fun b hb => ?_⟩
  · rw [g3]
    by_cases e : s = i
    · rw [e, va_up_self, if_pos ⟨by omega, hq⟩]
    · rw [va_up_ne _ _ e, h3]
      by_cases w : s < i ∧ q s = true
      · rw [if_pos w, if_pos ⟨by omega, w.2⟩]
      · rw [if_neg w, if_neg (fun v => w ⟨by omega, v.2⟩)]
  · by_cases e : sg b = i
    · exact g4 b ⟨w1, e⟩
    · rw [(g5 b (fun v => e v.2)).1]
      exact h4 b w1 (by omega) w3
  · have n1 : ¬ inS b i := fun v => hb ⟨v.1, by rw [v.2]; omega, by rw [v.2]; exact hq⟩
    obtain ⟨k1, k2⟩ := g5 b n1
    obtain ⟨k3, k4⟩ := h5 b (fun v => hb ⟨v.1, by omega, v.2.2⟩)
    exact ⟨by rw [k1, k3], fun j hj => by rw [k2 j hj, k4 j hj]⟩
theorem LG0.cnt16 {z : NSt} (h : LG0 z) {s : Nat} (hs : s < 128) : z.2 10 s ≤ 16 ∧ z.2 11 s ≤ 16 := by
  have hc := h.2.2.1 s hs
  have hb : ∀ k, cntF (z.2 9) k s ≤ 16 := by
    intro k
    unfold cntF
    have := sm_le (f := fun j => if z.2 9 (69 + 16 * s + j) = k then 1 else 0) (g := fun _ => 1) (n := 16) (fun i _ => by
      show (if _ then 1 else 0) ≤ 1
      split <;> omega)
    rw [sm_const] at this
    exact this
  rw [hc.1, hc.2]
  exact ⟨hb 1, hb 2⟩
theorem freeDead_b (FU : Nat) (hF : 140000 < FU) (z : NSt) (hz : LG0 z) (h8 : z.1 8 < 2 ^ 31) (h9 : z.1 9 < 2 ^ 31) : ∀ (m i n : Nat) (y : NSt), i + m = z.1 6 → m < n → FRD (deadB z) i z y → Ev (Log_freeDead_b2 FU n (nI i) (up y)) fun r => ∃ x, r = up x ∧ FRD (deadB z) (z.1 6) z x := by
  have hS := hz.1.2.1
  intro m
  induction m with
  | zero =>
    intro i n y h1 h2 hy
    obtain ⟨n, rfl⟩ : ∃ q9, n = q9 + 1 := ⟨n - 1, by omega⟩
    have hi : i = z.1 6 := h1
    subst hi
    unfold Log_freeDead_b2
    have e6 : y.1 6 = z.1 6 := hy.2.1.1 6 (by decide)
    simp (disch := omega) only [lit_nI, nI_ltI, nI_leI, nI_eq, nI_add, pk_sub, pk_div, nI_64, rdA_z, wrA_z, cpy_z, up1, up_I, nz_n0, nz_n1, zI1, zI2, zR1, zR2, zA1, zA2, Option.bind_some, nx_eq, if_true, if_false, if_pos, if_neg, e6]
    exact Ev.ret ⟨y, rfl, hy⟩
  | succ m ih =>
    intro i n y h1 h2 hy
    obtain ⟨n, rfl⟩ : ∃ q9, n = q9 + 1 := ⟨n - 1, by omega⟩
    unfold Log_freeDead_b2
    have e6 : y.1 6 = z.1 6 := hy.2.1.1 6 (by decide)
    have c := hy.1.cnt16 (s := i) (by omega)
    have hd : deadB y i = deadB z i := by
      unfold deadB endB
      rw [hy.2.1.2 10 (by decide) (by decide) (by decide), hy.2.1.2 11 (by decide) (by decide) (by decide), hy.2.1.1 8 (by decide), hy.2.1.1 9 (by decide)]
    rw [Log_isDead_z FU y (by omega) (by rw [hy.2.1.1 8 (by decide)]; exact h8) (by rw [hy.2.1.1 9 (by decide)]; exact h9) (by omega) (by omega), hd]
    cases hq : deadB z i
    · simp only [Bool.false_eq_true, if_false]
      unfold Log_freeDead_b23
      simp (disch := omega) only [lit_nI, nI_ltI, nI_leI, nI_eq, nI_add, pk_sub, pk_div, nI_64, rdA_z, wrA_z, cpy_z, up1, up_I, nz_n0, nz_n1, zI1, zI2, zR1, zR2, zA1, zA2, Option.bind_some, nx_eq, if_true, if_false, if_pos, if_neg, e6]
      exact ih (i + 1) n y (by omega) (by omega) (hy.skip hq)
    · simp only [if_true]
      simp (disch := omega) only [lit_nI, nI_ltI, nI_leI, nI_eq, nI_add, pk_sub, pk_div, nI_64, rdA_z, wrA_z, cpy_z, up1, up_I, nz_n0, nz_n1, zI1, zI2, zR1, zR2, zA1, zA2, Option.bind_some, nx_eq, if_true, if_false, if_pos, if_neg, e6]
      have hw := hy.1.2.2.2.2.1.1
      have hff := hy.1.2.2.2.1.1
      rw [Log_setFree_z y hF (by omega) (by omega) (fun s => by
        by_cases w : y.2 12 s = 0
        · omega
        · have := (hff s w).1; omega) (fun b => by have := hw b; omega), Option.bind_some]
      unfold Log_freeDead_b23
      simp (disch := omega) only [lit_nI, nI_ltI, nI_leI, nI_eq, nI_add, pk_sub, pk_div, nI_64, rdA_z, wrA_z, cpy_z, up1, up_I, nz_n0, nz_n1, zI1, zI2, zR1, zR2, zA1, zA2, Option.bind_some, nx_eq, if_true, if_false, if_pos, if_neg]
      unfold deadB at hq
      simp only [Bool.and_eq_true, decide_eq_true_eq] at hq
      exact ih (i + 1) n _ (by omega) (by omega) (hy.step (by omega) (by unfold deadB; simp only [Bool.and_eq_true, decide_eq_true_eq]; exact hq) hq.1.1 hq.1.2)
theorem freeDead_s {FU : Nat} (hF : 140000 < FU) {z : NSt} (hz : LG0 z) (h8 : z.1 8 < 2 ^ 31) (h9 : z.1 9 < 2 ^ 31) : Ev (Log_freeDead FU (up z)) fun r => ∃ x, r = up x ∧ FRD (deadB z) (z.1 6) z x :=
  freeDead_b FU hF z hz h8 h9 (z.1 6) 0 FU z (by omega) (by have := hz.1.2.1; omega) (FRD.zero hz)
