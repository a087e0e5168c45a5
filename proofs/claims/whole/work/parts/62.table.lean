/-! the table -/
def plZ (z : NSt) (n : Nat) : Nat := if 1 ≤ n ∧ n < 2048 then z.2 6 n else 0
def setPl (n p : Nat) (z : NSt) : NSt := if 1 ≤ n ∧ n < 2048 then zA z 6 n p else z
theorem Tab_placeOf_z (FU : Nat) (z : NSt) {n : Nat} (hn : n < 2 ^ 31) : Tab_placeOf FU (nI n) (up z) = some (nI (plZ z n)) := by
  unfold Tab_placeOf plZ
  by_cases h1 : 1 ≤ n
  · by_cases h2 : n < 2048
    · simp (disch := omega) only [lit_nI, nI_ltI, nI_leI, nI_eq, nI_add, pk_sub, pk_div, nI_64, rdA_z, wrA_z, cpy_z, up1, up_I, nz_n0, nz_n1, zI1, zI2, zR1, zR2, zA1, zA2, Option.bind_some, nx_eq, if_true, if_false, if_pos, if_neg]
    · simp (disch := omega) only [lit_nI, nI_ltI, nI_leI, nI_eq, nI_add, pk_sub, pk_div, nI_64, rdA_z, wrA_z, cpy_z, up1, up_I, nz_n0, nz_n1, zI1, zI2, zR1, zR2, zA1, zA2, Option.bind_some, nx_eq, if_true, if_false, if_pos, if_neg]
  · simp (disch := omega) only [lit_nI, nI_ltI, nI_leI, nI_eq, nI_add, pk_sub, pk_div, nI_64, rdA_z, wrA_z, cpy_z, up1, up_I, nz_n0, nz_n1, zI1, zI2, zR1, zR2, zA1, zA2, Option.bind_some, nx_eq, if_true, if_false, if_pos, if_neg]
theorem Tab_setPlace_z (FU : Nat) (z : NSt) {n p : Nat} (hn : n < 2 ^ 31) : Tab_setPlace FU (nI n) (nI p) (up z) = some (up (setPl n p z)) := by
  unfold Tab_setPlace setPl
  by_cases h1 : 1 ≤ n
  · by_cases h2 : n < 2048
    · simp (disch := omega) only [lit_nI, nI_ltI, nI_leI, nI_eq, nI_add, pk_sub, pk_div, nI_64, rdA_z, wrA_z, cpy_z, up1, up_I, nz_n0, nz_n1, zI1, zI2, zR1, zR2, zA1, zA2, Option.bind_some, nx_eq, if_true, if_false, if_pos, if_neg]
    · simp (disch := omega) only [lit_nI, nI_ltI, nI_leI, nI_eq, nI_add, pk_sub, pk_div, nI_64, rdA_z, wrA_z, cpy_z, up1, up_I, nz_n0, nz_n1, zI1, zI2, zR1, zR2, zA1, zA2, Option.bind_some, nx_eq, if_true, if_false, if_pos, if_neg]
  · simp (disch := omega) only [lit_nI, nI_ltI, nI_leI, nI_eq, nI_add, pk_sub, pk_div, nI_64, rdA_z, wrA_z, cpy_z, up1, up_I, nz_n0, nz_n1, zI1, zI2, zR1, zR2, zA1, zA2, Option.bind_some, nx_eq, if_true, if_false, if_pos, if_neg]
theorem Tab_isStirred_z (FU : Nat) (z : NSt) {n : Nat} (hn : n < 2 ^ 31) (hs : z.2 8 n ≤ 1) : Tab_isStirred FU (nI n) (up z) = some (nI (if 1 ≤ n ∧ n ≤ 250 then z.2 8 n else 0)) := by
  unfold Tab_isStirred
  by_cases h1 : 1 ≤ n
  · by_cases h2 : n ≤ 250
    · by_cases h3 : z.2 8 n = 0
      · simp (disch := omega) only [lit_nI, nI_ltI, nI_leI, nI_eq, nI_add, pk_sub, pk_div, nI_64, rdA_z, wrA_z, cpy_z, up1, up_I, nz_n0, nz_n1, zI1, zI2, zR1, zR2, zA1, zA2, Option.bind_some, nx_eq, if_true, if_false, if_pos, if_neg, h3]
      · have h3 : z.2 8 n = 1 := by omega
        simp (disch := omega) only [lit_nI, nI_ltI, nI_leI, nI_eq, nI_add, pk_sub, pk_div, nI_64, rdA_z, wrA_z, cpy_z, up1, up_I, nz_n0, nz_n1, zI1, zI2, zR1, zR2, zA1, zA2, Option.bind_some, nx_eq, if_true, if_false, if_pos, if_neg, h3]
    · simp (disch := omega) only [lit_nI, nI_ltI, nI_leI, nI_eq, nI_add, pk_sub, pk_div, nI_64, rdA_z, wrA_z, cpy_z, up1, up_I, nz_n0, nz_n1, zI1, zI2, zR1, zR2, zA1, zA2, Option.bind_some, nx_eq, if_true, if_false, if_pos, if_neg]
  · simp (disch := omega) only [lit_nI, nI_ltI, nI_leI, nI_eq, nI_add, pk_sub, pk_div, nI_64, rdA_z, wrA_z, cpy_z, up1, up_I, nz_n0, nz_n1, zI1, zI2, zR1, zR2, zA1, zA2, Option.bind_some, nx_eq, if_true, if_false, if_pos, if_neg]
def stirZ (n : Nat) (z : NSt) : NSt := if 1 ≤ n ∧ n ≤ 250 then zA z 8 n 1 else z
theorem Tab_stir_z (FU : Nat) (z : NSt) {n : Nat} (hn : n < 2 ^ 31) : Tab_stir FU (nI n) (up z) = some (up (stirZ n z)) := by
  unfold Tab_stir stirZ
  by_cases h1 : 1 ≤ n
  · by_cases h2 : n ≤ 250
    · simp (disch := omega) only [lit_nI, nI_ltI, nI_leI, nI_eq, nI_add, pk_sub, pk_div, nI_64, rdA_z, wrA_z, cpy_z, up1, up_I, nz_n0, nz_n1, zI1, zI2, zR1, zR2, zA1, zA2, Option.bind_some, nx_eq, if_true, if_false, if_pos, if_neg]
    · simp (disch := omega) only [lit_nI, nI_ltI, nI_leI, nI_eq, nI_add, pk_sub, pk_div, nI_64, rdA_z, wrA_z, cpy_z, up1, up_I, nz_n0, nz_n1, zI1, zI2, zR1, zR2, zA1, zA2, Option.bind_some, nx_eq, if_true, if_false, if_pos, if_neg]
  · simp (disch := omega) only [lit_nI, nI_ltI, nI_leI, nI_eq, nI_add, pk_sub, pk_div, nI_64, rdA_z, wrA_z, cpy_z, up1, up_I, nz_n0, nz_n1, zI1, zI2, zR1, zR2, zA1, zA2, Option.bind_some, nx_eq, if_true, if_false, if_pos, if_neg]
theorem lowestId_b (FU : Nat) (z : NSt) (hP : ∀ n, z.2 6 n < 2 ^ 32) (hK : ∀ n, z.2 7 n < 2 ^ 32) : ∀ (m i n : Nat), 1 ≤ i → i + m = 251 → m < n → Ev (Tab_lowestId_b2 FU n (nI i) (up z)) fun r => ∃ q, r = nI q ∧ ((q = 0 ∧ ∀ j, i ≤ j → j ≤ 250 → z.2 6 j ≠ 0 ∨ z.2 7 j ≠ 0) ∨ (i ≤ q ∧ q ≤ 250 ∧ z.2 6 q = 0 ∧ z.2 7 q = 0 ∧ ∀ j, i ≤ j → j < q → z.2 6 j ≠ 0 ∨ z.2 7 j ≠ 0)) := by
  intro m
  induction m with
  | zero =>
    intro i n h0 h1 h2
    obtain ⟨n, rfl⟩ : ∃ q9, n = q9 + 1 := ⟨n - 1, by omega⟩
    unfold Tab_lowestId_b2
    simp (disch := omega) only [lit_nI, nI_ltI, nI_leI, nI_eq, nI_add, pk_sub, pk_div, nI_64, rdA_z, wrA_z, cpy_z, up1, up_I, nz_n0, nz_n1, zI1, zI2, zR1, zR2, zA1, zA2, Option.bind_some, nx_eq, if_true, if_false, if_pos, if_neg]
    exact Ev.ret ⟨0, rfl, Or.inl ⟨rfl, fun j _ _ => by omega⟩⟩
  | succ m ih =>
    intro i n h0 h1 h2
    obtain ⟨n, rfl⟩ : ∃ q9, n = q9 + 1 := ⟨n - 1, by omega⟩
    unfold Tab_lowestId_b2
    simp (disch := omega) only [lit_nI, nI_ltI, nI_leI, nI_eq, nI_add, pk_sub, pk_div, nI_64, rdA_z, wrA_z, cpy_z, up1, up_I, nz_n0, nz_n1, zI1, zI2, zR1, zR2, zA1, zA2, Option.bind_some, nx_eq, if_true, if_false, if_pos, if_neg, nI_inj (hP _), nI_inj (hK _)]
    have next : z.2 6 i ≠ 0 ∨ z.2 7 i ≠ 0 → Ev (Tab_lowestId_b29 FU (Tab_lowestId_b2 FU n) (nI i) (up z)) fun r => ∃ q, r = nI q ∧ ((q = 0 ∧ ∀ j, i ≤ j → j ≤ 250 → z.2 6 j ≠ 0 ∨ z.2 7 j ≠ 0) ∨ (i ≤ q ∧ q ≤ 250 ∧ z.2 6 q = 0 ∧ z.2 7 q = 0 ∧ ∀ j, i ≤ j → j < q → z.2 6 j ≠ 0 ∨ z.2 7 j ≠ 0)) := by
      intro hi
      unfold Tab_lowestId_b29
      simp (disch := omega) only [lit_nI, nI_ltI, nI_leI, nI_eq, nI_add, pk_sub, pk_div, nI_64, rdA_z, wrA_z, cpy_z, up1, up_I, nz_n0, nz_n1, zI1, zI2, zR1, zR2, zA1, zA2, Option.bind_some, nx_eq, if_true, if_false, if_pos, if_neg]
      refine (ih (i + 1) n (by omega) (by omega) (by omega)).mono ?_
      rintro r ⟨q, rfl, h⟩
      refine ⟨q, rfl, ?_⟩
      rcases h with ⟨h3, h4⟩ | ⟨h3, h4, h5, h6, h7⟩
      · refine Or.inl ⟨h3, fun j hj hk => ?_⟩
        by_cases e : j = i
        · rw [e]; exact hi
        · exact h4 j (by omega) hk
      · refine Or.inr ⟨by omega, h4, h5, h6, fun j hj hk => ?_⟩
        by_cases e : j = i
        · rw [e]; exact hi
        · exact h7 j (by omega) hk
    by_cases h3 : z.2 6 i = 0
    · rw [if_pos h3]
      by_cases h4 : z.2 7 i = 0
      · rw [if_pos h4]
        exact Ev.ret ⟨i, rfl, Or.inr ⟨Nat.le_refl _, by omega, h3, h4, fun j _ _ => by omega⟩⟩
      · rw [if_neg h4]
        exact next (Or.inr h4)
    · rw [if_neg h3]
      exact next (Or.inl h3)
theorem Tab_lowestId_z {FU : Nat} (z : NSt) (hF : 251 < FU) (hP : ∀ n, z.2 6 n < 2 ^ 32) (hK : ∀ n, z.2 7 n < 2 ^ 32) : Ev (Tab_lowestId FU (up z)) fun r => ∃ q, r = nI q ∧ ((q = 0 ∧ ∀ j, 1 ≤ j → j ≤ 250 → z.2 6 j ≠ 0 ∨ z.2 7 j ≠ 0) ∨ (1 ≤ q ∧ q ≤ 250 ∧ z.2 6 q = 0 ∧ z.2 7 q = 0 ∧ ∀ j, 1 ≤ j → j < q → z.2 6 j ≠ 0 ∨ z.2 7 j ≠ 0)) :=
  lowestId_b FU z hP hK 250 1 FU (by omega) (by omega) (by omega)
theorem giveNumber_b (FU : Nat) (z : NSt) (hK : ∀ n, z.2 7 n < 2 ^ 32) : ∀ (m i n : Nat), 251 ≤ i → i + m = 2048 → m < n → (∃ j, i ≤ j ∧ j < 2048 ∧ z.2 7 j = 0) → Ev (Tab_giveNumber_b4 FU n (nI i) (up z)) fun r => ∃ q, i ≤ q ∧ q < 2048 ∧ z.2 7 q = 0 ∧ r = (nI q, up (zA z 7 q 1)) := by
  intro m
  induction m with
  | zero =>
    intro i n h0 h1 h2 h3
    obtain ⟨j, h4, h5, h6⟩ := h3
    omega
  | succ m ih =>
    intro i n h0 h1 h2 h3
    obtain ⟨n, rfl⟩ : ∃ q9, n = q9 + 1 := ⟨n - 1, by omega⟩
    unfold Tab_giveNumber_b4
    simp (disch := omega) only [lit_nI, nI_ltI, nI_leI, nI_eq, nI_add, pk_sub, pk_div, nI_64, rdA_z, wrA_z, cpy_z, up1, up_I, nz_n0, nz_n1, zI1, zI2, zR1, zR2, zA1, zA2, Option.bind_some, nx_eq, if_true, if_false, if_pos, if_neg, nI_inj (hK _)]
    by_cases h4 : z.2 7 i = 0
    · rw [if_pos h4]
      exact Ev.ret ⟨i, Nat.le_refl _, by omega, h4, rfl⟩
    · rw [if_neg h4]
      obtain ⟨j, h5, h6, h7⟩ := h3
      refine (ih (i + 1) n (by omega) (by omega) (by omega) ⟨j, ?_, h6, h7⟩).mono ?_
      · have : j ≠ i := fun e => h4 (by rw [← e]; exact h7)
        omega
      · rintro r ⟨q, h8, h9, h10, h11⟩
        exact ⟨q, by omega, h9, h10, h11⟩
theorem Tab_giveNumber_z {FU : Nat} (z : NSt) (hF : 2000 < FU) (hK : ∀ n, z.2 7 n < 2 ^ 32) (hx : ∃ j, 251 ≤ j ∧ j < 2048 ∧ z.2 7 j = 0) : Ev (Tab_giveNumber FU (up z)) fun r => ∃ q, 251 ≤ q ∧ q < 2048 ∧ z.2 7 q = 0 ∧ r = (nI q, up (zA z 7 q 1)) :=
  giveNumber_b FU z hK 1797 251 FU (by omega) (by omega) (by omega) hx
theorem idsInUse_b (FU : Nat) (z : NSt) (hP : ∀ n, z.2 6 n < 2 ^ 32) : ∀ (m i n c : Nat), 1 ≤ i → i + m = 251 → m < n → Tab_idsInUse_b4 FU n (nI c) (nI i) (up z) = some (nI (c + sm (fun j => if z.2 6 (i + j) = 0 then 0 else 1) m)) := by
  intro m
  induction m with
  | zero =>
    intro i n c h0 h1 h2
    obtain ⟨n, rfl⟩ : ∃ q9, n = q9 + 1 := ⟨n - 1, by omega⟩
    unfold Tab_idsInUse_b4
    simp (disch := omega) only [lit_nI, nI_ltI, nI_leI, nI_eq, nI_add, pk_sub, pk_div, nI_64, rdA_z, wrA_z, cpy_z, up1, up_I, nz_n0, nz_n1, zI1, zI2, zR1, zR2, zA1, zA2, Option.bind_some, nx_eq, if_true, if_false, if_pos, if_neg]
    rfl
  | succ m ih =>
    intro i n c h0 h1 h2
    obtain ⟨n, rfl⟩ : ∃ q9, n = q9 + 1 := ⟨n - 1, by omega⟩
    unfold Tab_idsInUse_b4
    have e : sm (fun j => if z.2 6 (i + j) = 0 then 0 else 1) (m + 1) = (if z.2 6 i = 0 then 0 else 1) + sm (fun j => if z.2 6 (i + 1 + j) = 0 then 0 else 1) m := by
      rw [Nat.add_comm m 1, sm_cut]
      show 0 + _ + _ = _
      rw [Nat.zero_add]
      congr 1
      exact sm_congr (fun j _ => by rw [Nat.add_assoc])
    simp (disch := omega) only [lit_nI, nI_ltI, nI_leI, nI_eq, nI_add, pk_sub, pk_div, nI_64, rdA_z, wrA_z, cpy_z, up1, up_I, nz_n0, nz_n1, zI1, zI2, zR1, zR2, zA1, zA2, Option.bind_some, nx_eq, if_true, if_false, if_pos, if_neg, nI_inj (hP _)]
    by_cases h3 : z.2 6 i = 0
    · rw [if_pos h3]
      unfold Tab_idsInUse_b23
      simp (disch := omega) only [lit_nI, nI_ltI, nI_leI, nI_eq, nI_add, pk_sub, pk_div, nI_64, rdA_z, wrA_z, cpy_z, up1, up_I, nz_n0, nz_n1, zI1, zI2, zR1, zR2, zA1, zA2, Option.bind_some, nx_eq, if_true, if_false, if_pos, if_neg]
      rw [ih (i + 1) n c (by omega) (by omega) (by omega), e, if_pos h3, Nat.zero_add]
    · rw [if_neg h3]
      unfold Tab_idsInUse_b23
      simp (disch := omega) only [lit_nI, nI_ltI, nI_leI, nI_eq, nI_add, pk_sub, pk_div, nI_64, rdA_z, wrA_z, cpy_z, up1, up_I, nz_n0, nz_n1, zI1, zI2, zR1, zR2, zA1, zA2, Option.bind_some, nx_eq, if_true, if_false, if_pos, if_neg]
      rw [ih (i + 1) n (c + 1) (by omega) (by omega) (by omega), e, if_neg h3, Nat.add_assoc]
theorem Tab_idsInUse_z {FU : Nat} (z : NSt) (hF : 251 < FU) (hP : ∀ n, z.2 6 n < 2 ^ 32) : Tab_idsInUse FU (up z) = some (nI (sm (fun j => if z.2 6 (1 + j) = 0 then 0 else 1) 250)) := by
  have h := idsInUse_b FU z hP 250 1 FU 0 (by omega) (by omega) (by omega)
  rw [Nat.zero_add] at h
  exact h
theorem settle_b (FU : Nat) : ∀ (m i n : Nat) (z : NSt), i + m = 251 → m < n → Tab_settle_b18 FU n (nI i) (up z) = some (up (zR z 8 (flN (z.2 8) i 251 0))) := by
  intro m
  induction m with
  | zero =>
    intro i n z h1 h2
    obtain ⟨n, rfl⟩ : ∃ q9, n = q9 + 1 := ⟨n - 1, by omega⟩
    unfold Tab_settle_b18
    simp (disch := omega) only [lit_nI, nI_ltI, nI_leI, nI_eq, nI_add, pk_sub, pk_div, nI_64, rdA_z, wrA_z, cpy_z, up1, up_I, nz_n0, nz_n1, zI1, zI2, zR1, zR2, zA1, zA2, Option.bind_some, nx_eq, if_true, if_false, if_pos, if_neg]
    have e : flN (z.2 8) i 251 0 = z.2 8 := by
      funext j
      unfold flN
      rw [if_neg (by omega)]
    rw [e]
    exact congrArg (fun q => some (up q)) (Prod.ext rfl (funext fun b => by
      show z.2 b = va_up z.2 8 (z.2 8) b
      unfold va_up
      split
      · rename_i h; rw [h]
      · rfl))
  | succ m ih =>
    intro i n z h1 h2
    obtain ⟨n, rfl⟩ : ∃ q9, n = q9 + 1 := ⟨n - 1, by omega⟩
    unfold Tab_settle_b18
    simp (disch := omega) only [lit_nI, nI_ltI, nI_leI, nI_eq, nI_add, pk_sub, pk_div, nI_64, rdA_z, wrA_z, cpy_z, up1, up_I, nz_n0, nz_n1, zI1, zI2, zR1, zR2, zA1, zA2, Option.bind_some, nx_eq, if_true, if_false, if_pos, if_neg]
    rw [ih (i + 1) n _ (by omega) (by omega)]
    refine congrArg (fun q => some (up q)) (Prod.ext rfl (funext fun b => funext fun j => ?_))
    show (va_up (va_up z.2 8 (va_up (z.2 8) i 0)) 8 (flN ((va_up z.2 8 (va_up (z.2 8) i 0)) 8) (i + 1) 251 0)) b j = va_up z.2 8 (flN (z.2 8) i 251 0) b j
    unfold va_up flN
    by_cases hb : b = 8
    · rw [if_pos hb, if_pos hb]
      show (if i + 1 ≤ j ∧ j < 251 then 0 else if j = i then 0 else z.2 8 j) = if i ≤ j ∧ j < 251 then 0 else z.2 8 j
      split <;> split <;> first | rfl | omega | (split <;> first | rfl | omega)
    · rw [if_neg hb, if_neg hb, if_neg hb]
def settleZ (z : NSt) : NSt := zR (zR z 7 (va_cpy (z.2 6) (z.2 7) 0 0 2048)) 8 (flN (z.2 8) 0 251 0)
theorem Tab_settle_z {FU : Nat} (z : NSt) (hF : 252 < FU) : Tab_settle FU (up z) = some (up (settleZ z)) := by
  unfold Tab_settle settleZ
  simp (disch := omega) only [lit_nI, nI_ltI, nI_leI, nI_eq, nI_add, pk_sub, pk_div, nI_64, rdA_z, wrA_z, cpy_z, up1, up_I, nz_n0, nz_n1, zI1, zI2, zR1, zR2, zA1, zA2, Option.bind_some, nx_eq, if_true, if_false, if_pos, if_neg]
  rw [settle_b FU 251 0 FU _ (by omega) (by omega)]
  rfl
def forgetT (z : NSt) : NSt := settleZ (zR z 6 (flN (z.2 6) 0 2048 0))
theorem Tab_forget_z {FU : Nat} (z : NSt) (hF : 2049 < FU) : Tab_forget FU (up z) = some (up (forgetT z)) := by
  unfold Tab_forget forgetT
  simp (disch := omega) only [lit_nI, nI_ltI, nI_leI, nI_eq, nI_add, pk_sub, pk_div, nI_64, rdA_z, wrA_z, cpy_z, up1, up_I, nz_n0, nz_n1, zI1, zI2, zR1, zR2, zA1, zA2, Option.bind_some, nx_eq, if_true, if_false, if_pos, if_neg]
  rw [fill0_z 6 0 z (by show 2048 < FU; omega), Option.bind_some, Tab_settle_z _ (by omega), Option.bind_some]
  rfl
