/-! erasing -/
theorem zext {z y : NSt} (h1 : ∀ k, z.1 k = y.1 k) (h2 : ∀ a i, z.2 a i = y.2 a i) : z = y := Prod.ext (funext h1) (funext fun a => funext fun i => h2 a i)
def ersZ (b n : Nat) (z : NSt) : NSt := zR (zR z 4 (fun j => if b ≤ j / 64 ∧ j / 64 < b + n ∧ z.2 5 (j / 64) ≠ 0 then 0 else z.2 4 j)) 5 (flN (z.2 5) b (b + n) 0)
theorem ersZ_0 (b : Nat) (z : NSt) : ersZ b 0 z = z := by
  refine zext (fun _ => rfl) (fun a i => ?_)
  show (if a = 5 then flN (z.2 5) b (b + 0) 0 else if a = 4 then (fun j => if b ≤ j / 64 ∧ j / 64 < b + 0 ∧ z.2 5 (j / 64) ≠ 0 then 0 else z.2 4 j) else z.2 a) i = z.2 a i
  by_cases h5 : a = 5
  · rw [if_pos h5, h5]
    unfold flN
    rw [if_neg (by omega)]
  · rw [if_neg h5]
    by_cases h4 : a = 4
    · rw [if_pos h4, h4]
      show (if b ≤ i / 64 ∧ i / 64 < b + 0 ∧ z.2 5 (i / 64) ≠ 0 then 0 else z.2 4 i) = z.2 4 i
      rw [if_neg (by omega)]
    · rw [if_neg h4]
theorem erase_b (FU : Nat) (hF : 140000 < FU) (B N : Nat) (hB : B + N ≤ 2117) : ∀ (m i n : Nat) (z : NSt), (∀ b, z.2 5 b < 2 ^ 32) → i + m = B + N → m < n → Dev_erase_b6 FU n (nI B) (nI N) (nI i) (up z) = some (up (ersZ i m z)) := by
  intro m
  induction m with
  | zero =>
    intro i n z hw h1 h2
    obtain ⟨n, rfl⟩ : ∃ q9, n = q9 + 1 := ⟨n - 1, by omega⟩
    unfold Dev_erase_b6
    simp (disch := omega) only [lit_nI, nI_ltI, nI_leI, nI_eq, nI_add, pk_sub, pk_div, nI_64, rdA_z, wrA_z, cpy_z, up1, up_I, nz_n0, nz_n1, zI1, zI2, zR1, zR2, zA1, zA2, Option.bind_some, nx_eq, if_true, if_false, if_pos, if_neg]
    rw [ersZ_0]
  | succ m ih =>
    intro i n z hw h1 h2
    obtain ⟨n, rfl⟩ : ∃ q9, n = q9 + 1 := ⟨n - 1, by omega⟩
    unfold Dev_erase_b6
    simp (disch := omega) only [lit_nI, nI_ltI, nI_leI, nI_eq, nI_add, pk_sub, pk_div, nI_64, rdA_z, wrA_z, cpy_z, up1, up_I, nz_n0, nz_n1, zI1, zI2, zR1, zR2, zA1, zA2, Option.bind_some, nx_eq, if_true, if_false, if_pos, if_neg, nI_inj (hw _)]
    by_cases h3 : z.2 5 i = 0
    · rw [if_pos h3]
      unfold Dev_erase_b54
      simp (disch := omega) only [lit_nI, nI_ltI, nI_leI, nI_eq, nI_add, pk_sub, pk_div, nI_64, rdA_z, wrA_z, cpy_z, up1, up_I, nz_n0, nz_n1, zI1, zI2, zR1, zR2, zA1, zA2, Option.bind_some, nx_eq, if_true, if_false, if_pos, if_neg]
      rw [ih (i + 1) n z hw (by omega) (by omega)]
      refine congrArg (fun q => some (up q)) (zext (fun _ => rfl) (fun a j => ?_))
      show (if a = 5 then flN (z.2 5) (i + 1) (i + 1 + m) 0 else if a = 4 then (fun j => if i + 1 ≤ j / 64 ∧ j / 64 < i + 1 + m ∧ z.2 5 (j / 64) ≠ 0 then 0 else z.2 4 j) else z.2 a) j = (if a = 5 then flN (z.2 5) i (i + (m + 1)) 0 else if a = 4 then (fun j => if i ≤ j / 64 ∧ j / 64 < i + (m + 1) ∧ z.2 5 (j / 64) ≠ 0 then 0 else z.2 4 j) else z.2 a) j
      by_cases h5 : a = 5
      · rw [if_pos h5, if_pos h5]
        unfold flN
        by_cases e : j = i
        · rw [e, if_neg (by omega), if_pos (by omega), h3]
        · by_cases e2 : i + 1 ≤ j ∧ j < i + 1 + m
          · rw [if_pos e2, if_pos (by omega)]
          · rw [if_neg e2, if_neg (by omega)]
      · rw [if_neg h5, if_neg h5]
        by_cases h4 : a = 4
        · rw [if_pos h4, if_pos h4]
          show (if i + 1 ≤ j / 64 ∧ j / 64 < i + 1 + m ∧ z.2 5 (j / 64) ≠ 0 then 0 else z.2 4 j) = if i ≤ j / 64 ∧ j / 64 < i + (m + 1) ∧ z.2 5 (j / 64) ≠ 0 then 0 else z.2 4 j
          by_cases e : j / 64 = i
          · rw [e, if_neg (by omega), if_neg (by omega)]
          · by_cases e2 : i + 1 ≤ j / 64 ∧ j / 64 < i + 1 + m ∧ z.2 5 (j / 64) ≠ 0
            · rw [if_pos e2, if_pos ⟨by omega, by omega, e2.2.2⟩]
            · rw [if_neg e2, if_neg (fun q => e2 ⟨by omega, by omega, q.2.2⟩)]
        · rw [if_neg h4, if_neg h4]
    · rw [if_neg h3]
      rw [fill1_z 4 0 z (lo := 64 * i) (hi := 64 * i + 64) (by omega) (by show 64 * i + 64 ≤ 135488; omega) (by omega)]
      unfold Dev_erase_b54
      simp (disch := omega) only [lit_nI, nI_ltI, nI_leI, nI_eq, nI_add, pk_sub, pk_div, nI_64, rdA_z, wrA_z, cpy_z, up1, up_I, nz_n0, nz_n1, zI1, zI2, zR1, zR2, zA1, zA2, Option.bind_some, nx_eq, if_true, if_false, if_pos, if_neg]
      rw [ih (i + 1) n _ (by
        intro b
        show (va_up (va_up z.2 4 (flN (z.2 4) (64 * i) (64 * i + 64) 0)) 5 (va_up ((va_up z.2 4 (flN (z.2 4) (64 * i) (64 * i + 64) 0)) 5) i 0)) 5 b < 2 ^ 32
        rw [va_up_self]
        unfold va_up
        split
        · omega
        · exact hw b) (by omega) (by omega)]
      refine congrArg (fun q => some (up q)) (zext (fun _ => rfl) (fun a j => ?_))
      show (if a = 5 then flN (fun b => if b = i then 0 else z.2 5 b) (i + 1) (i + 1 + m) 0 else if a = 4 then (fun j => if i + 1 ≤ j / 64 ∧ j / 64 < i + 1 + m ∧ (if j / 64 = i then 0 else z.2 5 (j / 64)) ≠ 0 then 0 else flN (z.2 4) (64 * i) (64 * i + 64) 0 j) else if a = 5 then va_up ((va_up z.2 4 (flN (z.2 4) (64 * i) (64 * i + 64) 0)) 5) i 0 else if a = 4 then flN (z.2 4) (64 * i) (64 * i + 64) 0 else z.2 a) j = (if a = 5 then flN (z.2 5) i (i + (m + 1)) 0 else if a = 4 then (fun j => if i ≤ j / 64 ∧ j / 64 < i + (m + 1) ∧ z.2 5 (j / 64) ≠ 0 then 0 else z.2 4 j) else z.2 a) j
      by_cases h5 : a = 5
      · rw [if_pos h5, if_pos h5]
        show (if i + 1 ≤ j ∧ j < i + 1 + m then 0 else if j = i then 0 else z.2 5 j) = if i ≤ j ∧ j < i + (m + 1) then 0 else z.2 5 j
        by_cases e : j = i
        · rw [if_neg (by omega), if_pos e, if_pos (by omega)]
        · by_cases e2 : i + 1 ≤ j ∧ j < i + 1 + m
          · rw [if_pos e2, if_pos (by omega)]
          · rw [if_neg e2, if_neg e, if_neg (by omega)]
      · simp only [if_neg h5]
        by_cases h4 : a = 4
        · simp only [if_pos h4]
          show (if i + 1 ≤ j / 64 ∧ j / 64 < i + 1 + m ∧ (if j / 64 = i then 0 else z.2 5 (j / 64)) ≠ 0 then 0 else flN (z.2 4) (64 * i) (64 * i + 64) 0 j) = if i ≤ j / 64 ∧ j / 64 < i + (m + 1) ∧ z.2 5 (j / 64) ≠ 0 then 0 else z.2 4 j
          unfold flN
          by_cases e : j / 64 = i
          · rw [if_neg (by omega), if_pos (by omega), if_pos ⟨by omega, by omega, by rw [e]; exact h3⟩]
          · rw [if_neg e]
            by_cases e2 : i + 1 ≤ j / 64 ∧ j / 64 < i + 1 + m ∧ z.2 5 (j / 64) ≠ 0
            · rw [if_pos e2, if_pos ⟨by omega, by omega, e2.2.2⟩]
            · rw [if_neg e2, if_neg (by omega), if_neg (fun q => e2 ⟨by omega, by omega, q.2.2⟩)]
        · simp only [if_neg h4]
theorem Dev_erase_z {FU : Nat} (z : NSt) (hF : 140000 < FU) {b n : Nat} (hb : b + n ≤ 2117) (hw : ∀ b, z.2 5 b < 2 ^ 32) : Dev_erase FU (nI b) (nI n) (up z) = some (up (ersZ b n z)) := by
  unfold Dev_erase
  simp (disch := omega) only [lit_nI, nI_ltI, nI_leI, nI_eq, nI_add, pk_sub, pk_div, nI_64, rdA_z, wrA_z, cpy_z, up1, up_I, nz_n0, nz_n1, zI1, zI2, zR1, zR2, zA1, zA2, Option.bind_some, nx_eq, if_true, if_false, if_pos, if_neg]
  exact erase_b FU hF b n hb n b FU z hw (by omega) (by omega)
theorem Dev_restart_z {FU : Nat} (z : NSt) (hF : 140000 < FU) (hw : ∀ b, z.2 5 b < 2 ^ 32) : Dev_restart FU (up z) = some (up (zI (ersZ 0 2117 z) 5 0)) := by
  unfold Dev_restart
  simp (disch := omega) only [lit_nI, nI_ltI, nI_leI, nI_eq, nI_add, pk_sub, pk_div, nI_64, rdA_z, wrA_z, cpy_z, up1, up_I, nz_n0, nz_n1, zI1, zI2, zR1, zR2, zA1, zA2, Option.bind_some, nx_eq, if_true, if_false, if_pos, if_neg]
  rw [Dev_erase_z z hF (by omega) hw]
  simp (disch := omega) only [lit_nI, nI_ltI, nI_leI, nI_eq, nI_add, pk_sub, pk_div, nI_64, rdA_z, wrA_z, cpy_z, up1, up_I, nz_n0, nz_n1, zI1, zI2, zR1, zR2, zA1, zA2, Option.bind_some, nx_eq, if_true, if_false, if_pos, if_neg]
