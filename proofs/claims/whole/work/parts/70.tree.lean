/-! words of inodes; what is in use -/
def wdI (z : NSt) (id i : Nat) : Nat := if 1 ≤ id ∧ id ≤ 250 ∧ z.2 6 id ≠ 0 then zW z (z.2 6 id) i else 0
def PB (z : NSt) : Prop := ∀ n, z.2 6 n < 2117
theorem Tre_wordOf_z (FU : Nat) {z : NSt} (hP : PB z) {id i : Nat} (hid : id < 2 ^ 31) (hi : i < 64) : Tre_wordOf FU (nI id) (nI i) (up z) = some (nI (wdI z id i)) := by
  unfold Tre_wordOf
  have hp := hP id
  rw [Tab_placeOf_z FU z hid]
  by_cases h1 : 1 ≤ id
  · by_cases h2 : id ≤ 250
    · have e : plZ z id = z.2 6 id := if_pos ⟨h1, by omega⟩
      rw [e]
      by_cases h3 : z.2 6 id = 0
      · have r : wdI z id i = 0 := if_neg (fun q => q.2.2 h3)
        rw [r, h3]
        simp (disch := omega) only [lit_nI, nI_ltI, nI_leI, nI_eq, nI_add, pk_sub, pk_div, nI_64, rdA_z, wrA_z, cpy_z, up1, up_I, nz_n0, nz_n1, zI1, zI2, zR1, zR2, zA1, zA2, Option.bind_some, nx_eq, if_true, if_false, if_pos, if_neg]
      · have r : wdI z id i = zW z (z.2 6 id) i := if_pos ⟨h1, h2, h3⟩
        rw [r]
        simp (disch := omega) only [lit_nI, nI_ltI, nI_leI, nI_eq, nI_add, pk_sub, pk_div, nI_64, rdA_z, wrA_z, cpy_z, up1, up_I, nz_n0, nz_n1, zI1, zI2, zR1, zR2, zA1, zA2, Option.bind_some, nx_eq, if_true, if_false, if_pos, if_neg, Dev_word_e]
    · have r : wdI z id i = 0 := if_neg (fun q => h2 q.2.1)
      rw [r]
      simp (disch := omega) only [lit_nI, nI_ltI, nI_leI, nI_eq, nI_add, pk_sub, pk_div, nI_64, rdA_z, wrA_z, cpy_z, up1, up_I, nz_n0, nz_n1, zI1, zI2, zR1, zR2, zA1, zA2, Option.bind_some, nx_eq, if_true, if_false, if_pos, if_neg]
  · have r : wdI z id i = 0 := if_neg (fun q => h1 q.1)
    rw [r]
    simp (disch := omega) only [lit_nI, nI_ltI, nI_leI, nI_eq, nI_add, pk_sub, pk_div, nI_64, rdA_z, wrA_z, cpy_z, up1, up_I, nz_n0, nz_n1, zI1, zI2, zR1, zR2, zA1, zA2, Option.bind_some, nx_eq, if_true, if_false, if_pos, if_neg]
theorem Tre_kindOf_z (FU : Nat) {z : NSt} (hP : PB z) {id : Nat} (hid : id < 2 ^ 31) : Tre_kindOf FU (nI id) (up z) = some (nI (wdI z id 0)) := by
  unfold Tre_kindOf
  rw [show (0 : Int32) = nI 0 from rfl, Tre_wordOf_z FU hP hid (by decide)]
  rfl
/-- the id that a number stands for -/
def idN (x : Int32) : Nat := if 1 ≤ x ∧ x ≤ 250 then x.toNatClampNeg else 0
theorem idN_z (z : NSt) {x : Int32} (hx : x < 1 ∨ 250 < x) : idN x = 0 := by
  unfold idN
  rw [if_neg]
  rintro ⟨h1, h2⟩
  rcases hx with h | h
  · rw [Int32.lt_iff_toInt_lt] at h
    rw [Int32.le_iff_toInt_le] at h1
    omega
  · rw [Int32.lt_iff_toInt_lt] at h
    rw [Int32.le_iff_toInt_le] at h2
    omega
theorem id_cases (x : Int32) : (x < 1 ∨ 250 < x) ∨ ∃ id, 1 ≤ id ∧ id ≤ 250 ∧ x = nI id ∧ idN x = id := by
  by_cases h1 : x < 1
  · exact Or.inl (Or.inl h1)
  · by_cases h2 : (250 : Int32) < x
    · exact Or.inl (Or.inr h2)
    · right
      have h0 : ¬ x < 0 := fun q => h1 (by
        rw [Int32.lt_iff_toInt_lt] at q ⊢
        have e0 : (0 : Int32).toInt = 0 := rfl
        have e1 : (1 : Int32).toInt = 1 := rfl
        omega)
      obtain ⟨j, hj, rfl⟩ := nI_of h0
      have g1 : 1 ≤ j := by
        rw [show (1 : Int32) = nI 1 from rfl, nI_ltI hj (by decide)] at h1
        omega
      have g2 : j ≤ 250 := by
        rw [show (250 : Int32) = nI 250 from rfl, nI_ltI (by decide) hj] at h2
        omega
      refine ⟨j, g1, g2, rfl, ?_⟩
      unfold idN
      rw [if_pos ⟨nI_le g1 hj, nI_le g2 (by decide)⟩, nI_clamp hj]
theorem idN_le (x : Int32) : idN x ≤ 250 := by
  rcases id_cases x with h | ⟨id, h1, h2, h3, h4⟩
  · rw [idN_z (up_of (fun _ => 0, fun _ _ => 0)).choose h]
    omega
  · omega
theorem wdI_0 (z : NSt) (i : Nat) : wdI z 0 i = 0 := if_neg (by omega)
theorem Tre_wordOf_x (FU : Nat) {z : NSt} (hP : PB z) (x : Int32) {i : Nat} (hi : i < 64) : Tre_wordOf FU x (nI i) (up z) = some (nI (wdI z (idN x) i)) := by
  rcases id_cases x with h | ⟨id, h1, h2, h3, h4⟩
  · rw [idN_z z h, wdI_0]
    unfold Tre_wordOf
    by_cases q : x < 1
    · rw [if_pos q]
      rfl
    · rw [if_neg q, if_pos (h.resolve_left q)]
      rfl
  · rw [h4, h3]
    exact Tre_wordOf_z FU hP (by omega) hi
theorem Tre_kindOf_x (FU : Nat) {z : NSt} (hP : PB z) (x : Int32) : Tre_kindOf FU x (up z) = some (nI (wdI z (idN x) 0)) := by
  unfold Tre_kindOf
  rw [show (0 : Int32) = nI 0 from rfl, Tre_wordOf_x FU hP x (by decide)]
  rfl
def nfN (b : Nat) : Nat := if b ≤ 20 then 0 else if (b - 20 + 55) / 56 ≤ 2 then (b - 20 + 55) / 56 else (b - 20 + 55) / 56 + 1
theorem Tre_nodesFor_z (FU : Nat) (g : St) {b : Nat} (hb : b < 2 ^ 30) : Tre_nodesFor FU (nI b) g = some (nI (nfN b)) := by
  unfold Tre_nodesFor nfN
  by_cases h : b ≤ 20
  · simp (disch := omega) only [lit_nI, nI_ltI, nI_leI, nI_eq, nI_add, pk_sub, pk_div, nI_64, rdA_z, wrA_z, cpy_z, up1, up_I, nz_n0, nz_n1, zI1, zI2, zR1, zR2, zA1, zA2, Option.bind_some, nx_eq, if_true, if_false, if_pos, if_neg]
  · have e : b - 20 + 56 - 1 = b - 20 + 55 := by omega
    by_cases h2 : (b - 20 + 55) / 56 ≤ 2
    · simp (disch := omega) only [lit_nI, nI_ltI, nI_leI, nI_eq, nI_add, pk_sub, pk_div, nI_64, rdA_z, wrA_z, cpy_z, up1, up_I, nz_n0, nz_n1, zI1, zI2, zR1, zR2, zA1, zA2, Option.bind_some, nx_eq, if_true, if_false, if_pos, if_neg, e]
    · simp (disch := omega) only [lit_nI, nI_ltI, nI_leI, nI_eq, nI_add, pk_sub, pk_div, nI_64, rdA_z, wrA_z, cpy_z, up1, up_I, nz_n0, nz_n1, zI1, zI2, zR1, zR2, zA1, zA2, Option.bind_some, nx_eq, if_true, if_false, if_pos, if_neg, e]
/-- an inode's numbers are small -/
def smI (z : NSt) (id : Nat) : Prop := wdI z id 0 ≤ 2 ∧ wdI z id 1 ≤ 100000 ∧ wdI z id 3 ≤ 1 ∧ (wdI z id 0 = 1 → wdI z id 4 ≤ 1000)
def blI (z : NSt) (id : Nat) : Nat := if wdI z id 0 = 2 then 1 + wdI z id 1 else if wdI z id 0 = 0 then 0 else if wdI z id 3 = 1 then 1 else 1 + wdI z id 4 + nfN ((wdI z id 1 + 255) / 256)
theorem Tre_blocksOf_x (FU : Nat) {z : NSt} (hP : PB z) (x : Int32) (hs : smI z (idN x)) : Tre_blocksOf FU x (up z) = some (nI (blI z (idN x))) := by
  obtain ⟨s0, s1, s3, s4⟩ := hs
  unfold Tre_blocksOf blI FF_blocksBegun
  rw [Tre_kindOf_x FU hP x, show (1 : Int32) = nI 1 from rfl, show (3 : Int32) = nI 3 from rfl, show (4 : Int32) = nI 4 from rfl, Tre_wordOf_x FU hP x (by decide), Tre_wordOf_x FU hP x (by decide), Tre_wordOf_x FU hP x (by decide)]
  have e : wdI z (idN x) 1 + 256 - 1 = wdI z (idN x) 1 + 255 := by omega
  by_cases h2 : wdI z (idN x) 0 = 2
  · rw [if_pos h2, h2]
    simp (disch := omega) only [lit_nI, nI_ltI, nI_leI, nI_eq, nI_add, pk_sub, pk_div, nI_64, rdA_z, wrA_z, cpy_z, up1, up_I, nz_n0, nz_n1, zI1, zI2, zR1, zR2, zA1, zA2, Option.bind_some, nx_eq, if_true, if_false, if_pos, if_neg]
  · rw [if_neg h2]
    by_cases h0 : wdI z (idN x) 0 = 0
    · rw [if_pos h0, h0]
      simp (disch := omega) only [lit_nI, nI_ltI, nI_leI, nI_eq, nI_add, pk_sub, pk_div, nI_64, rdA_z, wrA_z, cpy_z, up1, up_I, nz_n0, nz_n1, zI1, zI2, zR1, zR2, zA1, zA2, Option.bind_some, nx_eq, if_true, if_false, if_pos, if_neg]
    · rw [if_neg h0]
      have h1 : wdI z (idN x) 0 = 1 := by omega
      have s4 := s4 h1
      rw [h1]
      by_cases h3 : wdI z (idN x) 3 = 1
      · rw [if_pos h3, h3]
        simp (disch := omega) only [lit_nI, nI_ltI, nI_leI, nI_eq, nI_add, pk_sub, pk_div, nI_64, rdA_z, wrA_z, cpy_z, up1, up_I, nz_n0, nz_n1, zI1, zI2, zR1, zR2, zA1, zA2, Option.bind_some, nx_eq, if_true, if_false, if_pos, if_neg]
      · rw [if_neg h3]
        simp (disch := omega) only [lit_nI, nI_ltI, nI_leI, nI_eq, nI_add, pk_sub, pk_div, nI_64, rdA_z, wrA_z, cpy_z, up1, up_I, nz_n0, nz_n1, zI1, zI2, zR1, zR2, zA1, zA2, Option.bind_some, nx_eq, if_true, if_false, if_pos, if_neg, e, Tre_nodesFor_z]
theorem idN_n {id : Nat} (h1 : 1 ≤ id) (h2 : id ≤ 250) : idN (nI id) = id := by
  unfold idN
  rw [if_pos ⟨nI_le h1 (by omega), nI_le h2 (by decide)⟩, nI_clamp (by omega)]
def inUseN (z : NSt) : Nat := sm (fun j => blI z (1 + j)) 250
theorem blocksInUse_b (FU : Nat) {z : NSt} (hP : PB z) (hs : ∀ id, smI z id) : ∀ (m i n c : Nat), 1 ≤ i → i + m = 251 → m < n → Tre_blocksInUse_b4 FU n (nI c) (nI i) (up z) = some (nI (c + sm (fun j => blI z (i + j)) m)) := by
  intro m
  induction m with
  | zero =>
    intro i n c h0 h1 h2
    obtain ⟨n, rfl⟩ : ∃ q9, n = q9 + 1 := ⟨n - 1, by omega⟩
    unfold Tre_blocksInUse_b4
    simp (disch := omega) only [lit_nI, nI_ltI, nI_leI, nI_eq, nI_add, pk_sub, pk_div, nI_64, rdA_z, wrA_z, cpy_z, up1, up_I, nz_n0, nz_n1, zI1, zI2, zR1, zR2, zA1, zA2, Option.bind_some, nx_eq, if_true, if_false, if_pos, if_neg]
    rfl
  | succ m ih =>
    intro i n c h0 h1 h2
    obtain ⟨n, rfl⟩ : ∃ q9, n = q9 + 1 := ⟨n - 1, by omega⟩
    unfold Tre_blocksInUse_b4
    have e : sm (fun j => blI z (i + j)) (m + 1) = blI z i + sm (fun j => blI z (i + 1 + j)) m := by
      rw [Nat.add_comm m 1, sm_cut]
      show 0 + _ + _ = _
      rw [Nat.zero_add]
      congr 1
      exact sm_congr (fun j _ => by rw [Nat.add_assoc])
    rw [Tre_blocksOf_x FU hP (nI i) (hs _), idN_n h0 (by omega)]
    simp (disch := omega) only [lit_nI, nI_ltI, nI_leI, nI_eq, nI_add, pk_sub, pk_div, nI_64, rdA_z, wrA_z, cpy_z, up1, up_I, nz_n0, nz_n1, zI1, zI2, zR1, zR2, zA1, zA2, Option.bind_some, nx_eq, if_true, if_false, if_pos, if_neg]
    rw [ih (i + 1) n (c + blI z i) (by omega) (by omega) (by omega), e, Nat.add_assoc]
theorem Tre_blocksInUse_z {FU : Nat} (hF : 252 < FU) {z : NSt} (hP : PB z) (hs : ∀ id, smI z id) : Tre_blocksInUse FU (up z) = some (nI (inUseN z)) := by
  have h := blocksInUse_b FU hP hs 250 1 FU 0 (by omega) (by omega) (by omega)
  rw [Nat.zero_add] at h
  exact h
def mbf (z : NSt) : Nat := (z.1 16 - z.1 17 - z.1 18 + 15) / 16 + 10
theorem Chk_mustBeFree_z (FU : Nat) {z : NSt} (h : z.1 17 + z.1 18 ≤ z.1 16) (h2 : z.1 16 < 2 ^ 30) : Chk_mustBeFree FU (up z) = some (nI (mbf z)) := by
  unfold Chk_mustBeFree mbf
  have e : z.1 16 - z.1 17 - z.1 18 + 16 - 1 = z.1 16 - z.1 17 - z.1 18 + 15 := by omega
  by_cases q : 0 < z.1 16 - z.1 17 - z.1 18
  · simp (disch := omega) only [lit_nI, nI_ltI, nI_leI, nI_eq, nI_add, pk_sub, pk_div, nI_64, rdA_z, wrA_z, cpy_z, up1, up_I, nz_n0, nz_n1, zI1, zI2, zR1, zR2, zA1, zA2, Option.bind_some, nx_eq, if_true, if_false, if_pos, if_neg, e]
  · have q0 : z.1 16 - z.1 17 - z.1 18 = 0 := by omega
    simp (disch := omega) only [lit_nI, nI_ltI, nI_leI, nI_eq, nI_add, pk_sub, pk_div, nI_64, rdA_z, wrA_z, cpy_z, up1, up_I, nz_n0, nz_n1, zI1, zI2, zR1, zR2, zA1, zA2, Option.bind_some, nx_eq, if_true, if_false, if_pos, if_neg, q0]
/-! a new device -/
theorem Chk_readSuper_z (FU : Nat) {z : NSt} (h0 : zW z 0 0 ≤ 128) (h1 : zW z 0 1 ≤ zW z 0 0) : Chk_readSuper FU (up z) = some (up (zI (zI z 6 (zW z 0 0)) 16 (16 * (zW z 0 0 - zW z 0 1)))) := by
  unfold Chk_readSuper Log_setSegments
  rw [show (0 : Int32) = nI 0 from rfl, show (1 : Int32) = nI 1 from rfl, Dev_word_e FU z (by decide) (by decide), Option.bind_some]
  simp (disch := omega) only [lit_nI, nI_ltI, nI_leI, nI_eq, nI_add, pk_sub, pk_div, nI_64, rdA_z, wrA_z, cpy_z, up1, up_I, nz_n0, nz_n1, zI1, zI2, zR1, zR2, zA1, zA2, Option.bind_some, nx_eq, if_true, if_false, if_pos, if_neg]
  rw [Dev_word_e FU (zI z 6 (zW z 0 0)) (by decide) (by decide), Option.bind_some, show zW (zI z 6 (zW z 0 0)) 0 1 = zW z 0 1 from rfl]
  simp (disch := omega) only [lit_nI, nI_ltI, nI_leI, nI_eq, nI_add, pk_sub, pk_div, nI_64, rdA_z, wrA_z, cpy_z, up1, up_I, nz_n0, nz_n1, zI1, zI2, zR1, zR2, zA1, zA2, Option.bind_some, nx_eq, if_true, if_false, if_pos, if_neg, pk_mul]
/-- a device that was begun anew: the superblock alone is written -/
def NEW (s r : Nat) (z y : NSt) : Prop :=
  y.1 6 = s ∧ y.1 16 = 16 * (s - r) ∧ y.1 17 = 0 ∧ y.1 18 = 0 ∧ y.1 19 = 0 ∧ y.1 11 = 0 ∧ (∀ n, n < 2048 → y.2 6 n = 0 ∧ y.2 7 n = 0) ∧ (∀ n, n ≤ 250 → y.2 8 n = 0) ∧ (∀ b, y.2 9 b = 0) ∧ y.1 7 + 2 = s ∧ zW y 0 0 = s ∧ zW y 0 1 = r ∧
  (∀ b, 1 ≤ b → b < 2117 → y.2 5 b = 0) ∧ (∀ a, a ≠ 4 → a ≠ 5 → a ≠ 6 → a ≠ 7 → a ≠ 8 → a ≠ 9 → a ≠ 10 → a ≠ 11 → a ≠ 12 → a ≠ 22 → y.2 a = z.2 a) ∧ (∀ k, k ≠ 5 → k ≠ 6 → k ≠ 7 → k ≠ 8 → k ≠ 9 → k ≠ 10 → k ≠ 11 → k ≠ 16 → k ≠ 17 → k ≠ 18 → k ≠ 19 → y.1 k = z.1 k) ∧ Uz y = 16 * s ∧ ∀ n, 2048 ≤ n → y.2 6 n = z.2 6 n
theorem startAnew_s {FU : Nat} (hF : 140000 < FU) {z : NSt} (hb : BS z) {s r : Nat} (hs1 : 48 ≤ s) (hs2 : s ≤ 128) (hr : r ≤ s) : Ev (Chk_startAnew FU (nI s) (nI r) (up z)) fun w => ∃ y, w = up y ∧ LG y ∧ NEW s r z y := by
  obtain ⟨⟨hw1, hw2⟩, hu, hf⟩ := hb
  unfold Chk_startAnew
  rw [Dev_restart_z z hF (fun b => by have := hw1 b; omega), Option.bind_some, show (0 : Int32) = nI 0 from rfl, show (1 : Int32) = nI 1 from rfl, fill0_z 22 0 _ (by show 2176 < FU; omega), Option.bind_some]
  simp (disch := omega) only [lit_nI, nI_ltI, nI_leI, nI_eq, nI_add, pk_sub, pk_div, nI_64, rdA_z, wrA_z, cpy_z, up1, up_I, nz_n0, nz_n1, zI1, zI2, zR1, zR2, zA1, zA2, Option.bind_some, nx_eq, if_true, if_false, if_pos, if_neg]
  obtain ⟨z4, e4⟩ : ∃ q, q = zA (zA (zR (zI (ersZ 0 2117 z) 5 0) 22 (flN ((ersZ 0 2117 z).2 22) 0 (lenF 22) 0)) 22 0 s) 22 1 r := ⟨_, rfl⟩
  have a4 : ∀ a, a ≠ 4 → a ≠ 5 → a ≠ 22 → z4.2 a = z.2 a := fun a x4 x5 x22 => by
    rw [e4, zA2, if_neg x22, zA2, if_neg x22, zR2, if_neg x22, zI2, ers_2 _ _ _ x4 x5]
  have w4 : ∀ b, z4.2 5 b = if b < 2117 then 0 else z.2 5 b := fun b => by
    rw [e4, zA2, if_neg (by decide), zA2, if_neg (by decide), zR2, if_neg (by decide), zI2, ers_5]
    by_cases q : b < 2117
    · rw [if_pos q, if_pos (by omega)]
    · rw [if_neg q, if_neg (by omega)]
  have W4 : ∀ b i, i < 64 → zW z4 b i = if b < 2117 then 0 else zW z b i := fun b i hi => by
    have e : zW z4 b i = zW (ersZ 0 2117 z) b i := by
      unfold zW
      rw [e4, zA2, if_neg (by decide), zA2, if_neg (by decide), zR2, if_neg (by decide), zI2]
    rw [e, ers_W _ _ _ _ _ hi]
    by_cases q : b < 2117
    · rw [if_pos q]
      by_cases v : z.2 5 b = 0
      · rw [if_neg (fun t => t.2.2 v)]; exact hw2 b v i hi
      · rw [if_pos ⟨by omega, by omega, v⟩]
    · rw [if_neg q, if_neg (by omega)]
  have p0 : z4.2 22 0 = s := by rw [e4]; rfl
  have p1 : z4.2 22 1 = r := by rw [e4]; rfl
  have s4 : ∀ k, k ≠ 5 → z4.1 k = z.1 k := fun k hk => by rw [e4, zA1, zA1, zR1, zI1, if_neg hk]; rfl
  have s45 : z4.1 5 = 0 := by rw [e4]; rfl
  rw [← e4]
  rw [Dev_program_e FU z4 22 (b := 0) (k := 0) (by decide) (by decide) (by rw [w4, if_pos (by decide)]), Option.bind_some]
  obtain ⟨z5, e5⟩ : ∃ q, q = prg z4 22 0 0 := ⟨_, rfl⟩
  rw [← e5, Tab_forget_z z5 (by omega), Option.bind_some, Log_forget_z _ (by omega), Option.bind_some, Chk_forget_z, Option.bind_some]
  have a5 : ∀ a, a ≠ 4 → a ≠ 5 → z5.2 a = z4.2 a := fun a x4 x5 => by rw [e5, prg_2 _ _ _ _ x4 x5]
  have w5 : ∀ b, z5.2 5 b = if b = 0 then 1 else z4.2 5 b := fun b => by rw [e5]; rfl
  have W5 : ∀ b i, i < 64 → zW z5 b i = if b = 0 then z4.2 22 i else zW z4 b i := fun b i hi => by
    unfold zW
    rw [e5, prg_4, show (64 : Nat) * 0 = 64 * 0 from rfl, cpy_zW _ _ _ _ _ hi]
  have s5 : z5.1 = z4.1 := by rw [e5]; rfl
  obtain ⟨z8, e8⟩ : ∃ q, q = fgC (fgL (forgetT z5)) := ⟨_, rfl⟩
  have a8 : ∀ a, a ≠ 6 → a ≠ 7 → a ≠ 8 → a ≠ 9 → a ≠ 10 → a ≠ 11 → a ≠ 12 → z8.2 a = z5.2 a := fun a x6 x7 x8 x9 x10 x11 x12 => by
    rw [e8]
    show (fgL (forgetT z5)).2 a = _
    unfold fgL forgetT settleZ
    simp only [zI2, zR2, if_neg x6, if_neg x7, if_neg x8, if_neg x9, if_neg x10, if_neg x11, if_neg x12]
  have s8 : ∀ k, k ≠ 6 → k ≠ 7 → k ≠ 8 → k ≠ 9 → k ≠ 10 → k ≠ 11 → k ≠ 16 → k ≠ 17 → k ≠ 18 → k ≠ 19 → z8.1 k = z4.1 k := fun k x6 x7 x8 x9 x10 x11 x16 x17 x18 x19 => by
    rw [e8]
    unfold fgC fgL forgetT settleZ
    simp only [zI1, zR1, if_neg x6, if_neg x7, if_neg x8, if_neg x9, if_neg x10, if_neg x11, if_neg x16, if_neg x17, if_neg x18, if_neg x19]
    rw [s5]
  have r6 : z8.2 6 = flN (z5.2 6) 0 2048 0 := by rw [e8]; rfl
  have r7 : z8.2 7 = va_cpy (flN (z5.2 6) 0 2048 0) (z5.2 7) 0 0 2048 := by rw [e8]; rfl
  have r8 : z8.2 8 = flN (z5.2 8) 0 251 0 := by rw [e8]; rfl
  have r9 : z8.2 9 = flN (z5.2 9) 0 2117 0 := by rw [e8]; rfl
  have r10 : z8.2 10 = flN (z5.2 10) 0 128 0 := by rw [e8]; rfl
  have r11 : z8.2 11 = flN (z5.2 11) 0 128 0 := by rw [e8]; rfl
  have r12 : z8.2 12 = flN (z5.2 12) 0 128 0 := by rw [e8]; rfl
  have sz : ∀ k, k = 6 ∨ k = 7 ∨ k = 8 ∨ k = 9 ∨ k = 10 ∨ k = 11 ∨ k = 16 ∨ k = 17 ∨ k = 18 ∨ k = 19 → z8.1 k = 0 := by
    rintro k (rfl | rfl | rfl | rfl | rfl | rfl | rfl | rfl | rfl | rfl) <;> rw [e8] <;> rfl
  have W8 : ∀ b i, i < 64 → zW z8 b i = zW z5 b i := fun b i hi => by
    unfold zW
    rw [a8 4 (by decide) (by decide) (by decide) (by decide) (by decide) (by decide) (by decide)]
  have q0 : zW z8 0 0 = s := by rw [W8 0 0 (by decide), W5 0 0 (by decide), if_pos rfl, p0]
  have q1 : zW z8 0 1 = r := by rw [W8 0 1 (by decide), W5 0 1 (by decide), if_pos rfl, p1]
  have w8 : ∀ b, z8.2 5 b = if b = 0 then 1 else if b < 2117 then 0 else z.2 5 b := fun b => by
    rw [a8 5 (by decide) (by decide) (by decide) (by decide) (by decide) (by decide) (by decide), w5, w4]
  have u8 : ∀ b, z8.2 9 b = 0 := fun b => by
    rw [r9]
    unfold flN
    by_cases q : b < 2117
    · rw [if_pos ⟨by omega, q⟩]
    · rw [if_neg (by omega), a5 9 (by decide) (by decide), a4 9 (by decide) (by decide) (by decide)]
      exact hu b (by omega)
  have f8 : ∀ t, z8.2 12 t = 0 := fun t => by
    rw [r12]
    unfold flN
    by_cases q : t < 128
    · rw [if_pos ⟨by omega, q⟩]
    · rw [if_neg (by omega), a5 12 (by decide) (by decide), a4 12 (by decide) (by decide) (by decide)]
      exact hf t (by omega)
  rw [← e8, Chk_readSuper_z FU (by omega) (by omega), q0, q1, Option.bind_some]
  obtain ⟨z9, e9⟩ : ∃ q, q = zI (zI z8 6 s) 16 (16 * (s - r)) := ⟨_, rfl⟩
  rw [← e9]
  have b9 : z9.2 = z8.2 := by rw [e9]; rfl
  have s9 : ∀ k, k ≠ 6 → k ≠ 16 → z9.1 k = z8.1 k := fun k x6 x16 => by rw [e9, zI1, if_neg x16, zI1, if_neg x6]
  have s96 : z9.1 6 = s := by rw [e9]; rfl
  have s916 : z9.1 16 = 16 * (s - r) := by rw [e9]; rfl
  have hL9 : LG0 z9 := by
    refine ⟨⟨by omega, by omega, ?_⟩, fun b hb => ?_, fun t ht => ?_, ⟨fun t ht => ?_, ?_⟩, ⟨fun b => ?_, fun b hb i hi => ?_⟩, ⟨fun t ht => ?_, ?_⟩⟩
    · rw [s9 10 (by decide) (by decide), sz 10 (by omega)]; omega
    · rw [b9] at hb; exact absurd (u8 b) hb
    · have e0 : ∀ k, k ≠ 0 → cntF (z8.2 9) k t = 0 := fun k hk => by
        unfold cntF
        exact sm_zero (fun j _ => by rw [u8, if_neg (Ne.symm hk)])
      rw [b9, e0 1 (by decide), e0 2 (by decide), r10, r11]
      unfold flN
      exact ⟨if_pos ⟨by omega, ht⟩, if_pos ⟨by omega, ht⟩⟩
    · rw [b9] at ht; exact absurd (f8 t) ht
    · rw [s9 7 (by decide) (by decide), sz 7 (by omega), b9]
      exact (sm_zero (fun t _ => f8 t)).symm
    · rw [b9, w8]
      split
      · omega
      · split
        · omega
        · exact hw1 b
    · rw [b9] at hb
      have e : zW z9 b i = zW z8 b i := by unfold zW; rw [b9]
      rw [w8] at hb
      rw [e, W8 b i hi, W5 b i hi, W4 b i hi]
      by_cases v0 : b = 0
      · rw [if_pos v0] at hb; omega
      · rw [if_neg v0] at hb ⊢
        by_cases v : b < 2117
        · rw [if_pos v]
        · rw [if_neg v] at hb ⊢
          exact hw2 b hb i hi
    · rw [b9, r10]
      unfold flN
      exact Or.inl (if_pos ⟨by omega, ht⟩)
    · rw [s9 5 (by decide) (by decide), s8 5 (by decide) (by decide) (by decide) (by decide) (by decide) (by decide) (by decide) (by decide) (by decide) (by decide), s45]
  have h98 : z9.1 8 = 0 := by rw [s9 8 (by decide) (by decide), sz 8 (by omega)]
  have h99 : z9.1 9 = 0 := by rw [s9 9 (by decide) (by decide), sz 9 (by omega)]
  refine (freeDead_s hF hL9 (by omega) (by omega)).bd ?_
  rintro _ ⟨x, rfl, hx0, ⟨x1, xa⟩, x12, x5, xW⟩
  have hdead : ∀ t, t < 128 → deadB z9 t = true := fun t ht => by
    unfold deadB endB
    rw [h98, h99, b9, r10, r11]
    unfold flN
    rw [if_pos ⟨by omega, ht⟩, if_pos ⟨by omega, ht⟩]
    rfl
  rw [s96] at x12 x5 xW
  have x7 : x.1 7 = s := by
    rw [hx0.2.2.2.1.2]
    have e : ∀ t, t < 128 → x.2 12 t = if t < s then 1 else 0 := fun t ht => by
      rw [x12, b9, f8, hdead t ht]
      by_cases q : t < s
      · rw [if_pos q, if_pos ⟨q, rfl⟩]
      · rw [if_neg q, if_neg (fun v => q v.1)]
    rw [sm_congr e, show (128 : Nat) = s + (128 - s) by omega, sm_cut, sm_congr (g := fun _ => 1) (n := s) (fun t ht => if_pos ht), sm_const, sm_zero (fun t _ => if_neg (by omega))]
    omega
  refine (openEnds_s (by omega) hx0 (by omega)).bd ?_
  rintro _ ⟨y, s1, s2, rfl, hy, o1, o2, o3, o4, o5, o6, o7, o8, o9, o10, o11⟩
  have ya : ∀ a, a ≠ 4 → a ≠ 5 → a ≠ 12 → y.2 a = z8.2 a := fun a v4 v5 v12 => by rw [o10 a v12, xa a v4 v5 v12, b9]
  have y1 : ∀ k, k ≠ 6 → k ≠ 7 → k ≠ 8 → k ≠ 9 → k ≠ 10 → k ≠ 16 → y.1 k = z8.1 k := fun k v6 v7 v8 v9 v10 v16 => by rw [o9 k v7 v8 v9 v10, x1 k v7, s9 k v6 v16]
  refine Ev.ret ⟨y, rfl, hy, ?_, ?_, ?_, ?_, ?_, ?_, fun n hn => ?_, fun n hn => ?_, fun b => ?_, by omega, ?_, ?_, fun b g1 g2 => ?_, fun a v4 v5 v6 v7 v8 v9 v10 v11 v12 v22 => ?_, fun k v5 v6 v7 v8 v9 v10 v11 v16 v17 v18 v19 => ?_, by omega, fun n hn => ?_⟩
  · rw [o9 6 (by decide) (by decide) (by decide) (by decide), x1 6 (by decide), s96]
  · rw [o9 16 (by decide) (by decide) (by decide) (by decide), x1 16 (by decide), s916]
  · rw [y1 17 (by decide) (by decide) (by decide) (by decide) (by decide) (by decide), sz 17 (by omega)]
  · rw [y1 18 (by decide) (by decide) (by decide) (by decide) (by decide) (by decide), sz 18 (by omega)]
  · rw [y1 19 (by decide) (by decide) (by decide) (by decide) (by decide) (by decide), sz 19 (by omega)]
  · rw [y1 11 (by decide) (by decide) (by decide) (by decide) (by decide) (by decide), sz 11 (by omega)]
  · rw [ya 6 (by decide) (by decide) (by decide), ya 7 (by decide) (by decide) (by decide), r6, r7]
    unfold va_cpy flN
    rw [if_pos ⟨by omega, hn⟩, if_pos (by omega), if_pos (by omega)]
    exact ⟨rfl, rfl⟩
  · rw [ya 8 (by decide) (by decide) (by decide), r8]
    unfold flN
    rw [if_pos ⟨by omega, by omega⟩]
  · rw [ya 9 (by decide) (by decide) (by decide)]
    exact u8 b
  · have e : zW y 0 0 = zW x 0 0 := by unfold zW; rw [o10 4 (by decide)]
    rw [e, (xW 0 (fun q => by omega)).2 0 (by decide)]
    unfold zW at q0 ⊢
    rw [b9]; exact q0
  · have e : zW y 0 1 = zW x 0 1 := by unfold zW; rw [o10 4 (by decide)]
    rw [e, (xW 0 (fun q => by omega)).2 1 (by decide)]
    unfold zW at q1 ⊢
    rw [b9]; exact q1
  · rw [o10 5 (by decide)]
    by_cases v : 69 ≤ b ∧ sg b < s ∧ deadB z9 (sg b) = true
    · exact x5 b v.1 v.2.1 v.2.2
    · rw [(xW b v).1, b9, w8, if_neg (by omega), if_pos g2]
  · rw [ya a v4 v5 v12, a8 a v6 v7 v8 v9 v10 v11 v12, a5 a v4 v5, a4 a v4 v5 v22]
  · rw [y1 k v6 v7 v8 v9 v10 v16, s8 k v6 v7 v8 v9 v10 v11 v16 v17 v18 v19, s4 k v5]
  · rw [ya 6 (by decide) (by decide) (by decide), r6]
    unfold flN
    rw [if_neg (by omega), a5 6 (by decide) (by decide), a4 6 (by decide) (by decide) (by decide)]
