/-! putData and putNode as wholes -/
theorem LG.f1 {z : NSt} (h : LG z) (hU : 33 ≤ Uz z) : 1 ≤ z.1 7 := by
  unfold Uz at hU
  omega
theorem LG.end8 {z : NSt} (h : LG z) : 69 ≤ z.1 8 ∧ z.1 8 < 69 + 16 * z.1 6 ∧ z.1 8 < 2117 ∧ z.2 5 (z.1 8) = 0 ∧ z.2 9 (z.1 8) = 0 := by
  obtain ⟨e1, e2, e3, e4⟩ := h.2.1
  have := h.1.1.2.1
  have hw := e4 _ (Nat.le_refl _) rfl
  exact ⟨e1, e2, by omega, hw, h.unused hw⟩
theorem LG.end9 {z : NSt} (h : LG z) : 69 ≤ z.1 9 ∧ z.1 9 < 69 + 16 * z.1 6 ∧ z.1 9 < 2117 ∧ z.2 5 (z.1 9) = 0 ∧ z.2 9 (z.1 9) = 0 := by
  obtain ⟨e1, e2, e3, e4⟩ := h.2.2.1
  have := h.1.1.2.1
  have hw := e4 _ (Nat.le_refl _) rfl
  exact ⟨e1, e2, by omega, hw, h.unused hw⟩
theorem cpy_zW (f : Nat → Nat) (w : Nat → Nat) (d b i : Nat) (hi : i < 64) : va_cpy f w 0 (64 * d) 64 (64 * b + i) = if b = d then f i else w (64 * b + i) := by
  unfold va_cpy
  by_cases h : b = d
  · rw [if_pos h, if_pos (by omega)]
    congr 1
    omega
  · rw [if_neg h, if_neg (by omega)]
theorem nxtE_2 {z y : NSt} {d e : Nat} (h : nxtE z d e y) {b : Nat} (hb : b ≠ 12) : y.2 b = z.2 b := by
  rcases h with ⟨-, -, rfl⟩ | ⟨-, s, -, -, -, rfl⟩
  · rfl
  · exact opn_2 _ _ hb
theorem nxtE_1 {z y : NSt} {d e : Nat} (h : nxtE z d e y) {k : Nat} (h7 : k ≠ 7) (h10 : k ≠ 10) : y.1 k = z.1 k := by
  rcases h with ⟨-, -, rfl⟩ | ⟨-, s, -, -, -, rfl⟩
  · rfl
  · rw [opn_1, if_neg h10, if_neg h7]
theorem nxtE_12 {z y : NSt} {d e : Nat} (h : nxtE z d e y) (s : Nat) (hs : y.2 12 s ≠ 0) : z.2 12 s ≠ 0 := by
  rcases h with ⟨-, -, rfl⟩ | ⟨-, t, -, -, -, rfl⟩
  · exact hs
  · rw [opn_12] at hs
    by_cases q : s = t
    · rw [q, va_up_self] at hs; exact absurd rfl hs
    · rwa [va_up_ne _ _ q] at hs
theorem nxtE_sg {z y : NSt} {d e : Nat} (h : nxtE z d e y) (hd : 69 ≤ d) : sg e = sg d ∨ z.2 12 (sg e) ≠ 0 := by
  rcases h with ⟨h1, rfl, rfl⟩ | ⟨-, s, -, hs, rfl, rfl⟩
  · left
    unfold sg
    omega
  · right
    have : sg (69 + 16 * s) = s := by
      unfold sg
      omega
    rw [this]; exact hs
theorem nxtE_nx {z y Y : NSt} {d e E : Nat} (h : nxtE z d e y) (hd : d = z.1 E) (h1 : Y.1 E = e) (h2 : Y.2 12 = y.2 12) : NXE E z Y := by
  rcases h with ⟨a1, rfl, rfl⟩ | ⟨a1, s, -, hs, rfl, rfl⟩
  · exact Or.inl ⟨by rw [h1, hd], by rw [← hd]; exact a1, h2⟩
  · exact Or.inr ⟨by rw [← hd]; exact a1, s, hs, h1, by rw [h2, opn_12]⟩
theorem putData_s {FU : Nat} {z : NSt} {a : Nat} (hF : 200 < FU) (ha : 64 ≤ lenF a) (hab : a ≠ 12) (h : LG z) (hU : 33 ≤ Uz z) : Ev (Log_putData FU a (up z)) fun r => ∃ y, r = (nI (z.1 9), up y) ∧ LG y ∧ PD z a y := by
  obtain ⟨d1, d2, d3, d4, d5⟩ := h.end9
  have hS := h.1.1
  refine (Log_putData_z z a hF ha ⟨by have := hS.1; omega, hS.2.1⟩ hS.2.2 h.free1 (h.f1 hU) (h.freeEx (h.f1 hU)) d1 d3 d4).mono ?_
  rintro r ⟨e, y, hn, rfl⟩
  obtain ⟨Y, eY⟩ : ∃ Y, Y = clmZ (z.1 9) 2 (prg (zI y 9 e) a (z.1 9) 0) := ⟨_, rfl⟩
  rw [← eY]
  have r4 : Y.2 4 = va_cpy (z.2 a) (z.2 4) 0 (64 * z.1 9) 64 := by
    rw [eY, clm_2 _ _ _ (by decide) (by decide) (by decide), prg_4, zI2, nxtE_2 hn hab, nxtE_2 hn (by decide)]
  have r5 : Y.2 5 = va_up (z.2 5) (z.1 9) 1 := by
    rw [eY, clm_2 _ _ _ (by decide) (by decide) (by decide), prg_5, zI2, nxtE_2 hn (by decide)]
  have r9 : Y.2 9 = va_up (z.2 9) (z.1 9) 2 := by
    rw [eY, clm_9, prg_2 _ _ _ _ (by decide) (by decide), zI2, nxtE_2 hn (by decide)]
  have r10 : Y.2 10 = z.2 10 := by
    rw [eY, clm_10b, prg_2 _ _ _ _ (by decide) (by decide), zI2, nxtE_2 hn (by decide)]
  have r11 : Y.2 11 = va_up (z.2 11) (sg (z.1 9)) (z.2 11 (sg (z.1 9)) + 1) := by
    rw [eY, clm_11b, prg_2 _ _ _ _ (by decide) (by decide), zI2, nxtE_2 hn (by decide)]
  have r12 : Y.2 12 = y.2 12 := by
    rw [eY, clm_2 _ _ _ (by decide) (by decide) (by decide), prg_2 _ _ _ _ (by decide) (by decide), zI2]
  have rn : ∀ b, b ≠ 4 → b ≠ 5 → b ≠ 9 → b ≠ 11 → b ≠ 12 → Y.2 b = z.2 b := by
    intro b h4 h5 h9 h11 h12
    by_cases h10 : b = 10
    · rw [h10]; exact r10
    · rw [eY, clm_2 _ _ _ h9 h10 h11, prg_2 _ _ _ _ h4 h5, zI2, nxtE_2 hn h12]
  have r1 : ∀ j, Y.1 j = if j = 9 then e else y.1 j := by
    intro j
    rw [eY, clm_1, prg_1, zI1]
  obtain ⟨hL, hUz⟩ := write_LG (k := 2) (E := 9) (O := 8) (A := 11) (B := 10) (Or.inr ⟨rfl, rfl, rfl, rfl, rfl⟩) h rfl hn r1 r5 r9 r12 r11 r10 (fun b hb i hi => by
    unfold zW
    rw [r4, cpy_zW _ _ _ _ _ hi, if_neg hb])
  exact ⟨Y, rfl, hL, r4, r5, r9, rn, fun k h7 h9 h10 => by rw [r1, if_neg h9, nxtE_1 hn h7 h10], hUz, d4, d5, d1, d2, fun s hs => nxtE_12 hn s (by rw [← r12]; exact hs), by rw [r1, if_pos rfl]; exact nxtE_sg hn d1, nxtE_nx hn rfl (by rw [r1, if_pos rfl]) r12⟩
/-- a node's words as they come to the device -/
def ndW (f : Nat → Nat) (n k s e i : Nat) : Nat := if i = 63 then e else if i = 62 then s else if i = 60 then n else if i = 59 then k else f i
/-- what putNode leaves -/
def PN (z : NSt) (a n k : Nat) (y : NSt) : Prop :=
  y.2 4 = va_cpy (ndW (z.2 a) n k (z.1 11) (y.1 8)) (z.2 4) 0 (64 * z.1 8) 64 ∧ y.2 5 = va_up (z.2 5) (z.1 8) 1 ∧ y.2 6 = va_up (z.2 6) n (z.1 8) ∧ y.2 9 = va_up (va_up (z.2 9) (z.1 8) 1) (z.2 6 n) 0 ∧ y.2 a = ndW (z.2 a) n k (z.1 11) (y.1 8) ∧
  (∀ b, b ≠ 4 → b ≠ 5 → b ≠ 6 → b ≠ 9 → b ≠ 10 → b ≠ 11 → b ≠ 12 → b ≠ a → y.2 b = z.2 b) ∧ (∀ k, k ≠ 7 → k ≠ 8 → k ≠ 10 → y.1 k = z.1 k) ∧ Uz y + 1 = Uz z ∧ z.2 5 (z.1 8) = 0 ∧ z.2 9 (z.1 8) = 0 ∧ 69 ≤ z.1 8 ∧ z.1 8 < 69 + 16 * z.1 6 ∧ z.2 6 n ≠ z.1 8 ∧ (∀ s, y.2 12 s ≠ 0 → z.2 12 s ≠ 0) ∧ (sg (y.1 8) = sg (z.1 8) ∨ z.2 12 (sg (y.1 8)) ≠ 0) ∧ NXE 8 z y
theorem drp_1 (p : Nat) (z : NSt) : (drpZ p z).1 = z.1 := by
  unfold drpZ
  split <;> rfl
theorem drp_2 (p : Nat) (z : NSt) {b : Nat} (h9 : b ≠ 9) (h10 : b ≠ 10) (h11 : b ≠ 11) : (drpZ p z).2 b = z.2 b := by
  unfold drpZ
  split
  · rw [zA2, if_neg h9, zA2, if_neg (by split <;> assumption)]
  · rfl
theorem up_same {f : Nat → Nat} {p v : Nat} (h : f p = v) : va_up f p v = f := by
  funext j
  unfold va_up
  split
  · rename_i q; rw [q, h]
  · rfl
theorem drp_9 {z : NSt} (h : LG z) (p : Nat) : (drpZ p z).2 9 = va_up (z.2 9) p 0 := by
  unfold drpZ
  split
  · rw [zA2, if_pos rfl, zA2, if_neg (by split <;> decide)]
  · rename_i q
    rw [up_same]
    by_cases w : z.2 9 p = 0
    · exact w
    · obtain ⟨-, u2, u3, -⟩ := h.1.2.1 p w
      have := h.1.1.2.1
      exact absurd ⟨u2, by omega, w⟩ q
theorem putNode_s {FU : Nat} {z : NSt} {a n k : Nat} (hF : 200 < FU) (ha : lenF a = 64) (hab : a ≠ 4 ∧ a ≠ 5 ∧ a ≠ 6 ∧ a ≠ 9 ∧ a ≠ 10 ∧ a ≠ 11 ∧ a ≠ 12) (h : LG z) (hU : 33 ≤ Uz z) (hn1 : 1 ≤ n) (hn2 : n < 2048) (hpn : z.2 6 n = 0 ∨ z.2 9 (z.2 6 n) ≠ 0) : Ev (Log_putNode FU a (nI n) (nI k) (up z)) fun r => ∃ y, r = up y ∧ LG y ∧ PN z a n k y := by
  obtain ⟨d1, d2, d3, d4, d5⟩ := h.end8
  obtain ⟨a4, a5, a6, a9, a10, a11, a12⟩ := hab
  have hS := h.1.1
  have hpl : plZ z n = z.2 6 n := if_pos ⟨hn1, hn2⟩
  have hne : z.2 6 n ≠ z.1 8 := by
    intro q
    rcases hpn with w | w
    · omega
    · exact w (by rw [q]; exact d5)
  have hp2 : z.2 6 n < 2117 := by
    rcases hpn with w | w
    · omega
    · obtain ⟨-, u2, u3, -⟩ := h.1.2.1 _ w
      have := hS.2.1
      omega
  refine (Log_putNode_z (k := k) z hF ha ⟨a6, a9, a10, a11, a5, a4, a12⟩ ⟨by have := hS.1; omega, hS.2.1⟩ hS.2.2 h.free1 (h.f1 hU) (h.freeEx (h.f1 hU)) d1 d3 d4 (by omega) (by rw [hpl]; omega) (by rw [hpl]; exact hne) (by rw [hpl]; exact h.use2 _) (fun _ _ q => by rw [hpl] at q ⊢; exact h.cnt_pos q)).mono ?_
  rintro r ⟨e, y, hn, rfl⟩
  obtain ⟨X, eX⟩ : ∃ X, X = clmZ (z.1 8) 1 (prg (stmp y a n k e) a (z.1 8) 0) := ⟨_, rfl⟩
  have hst : (stmp y a n k e).2 a = ndW (z.2 a) n k (z.1 11) e := by
    funext i
    rw [stmp_a, nxtE_2 hn a12, nxtE_1 hn (by decide) (by decide)]
    rfl
  have r4 : X.2 4 = va_cpy (ndW (z.2 a) n k (z.1 11) e) (z.2 4) 0 (64 * z.1 8) 64 := by
    rw [eX, clm_2 _ _ _ (by decide) (by decide) (by decide), prg_4, hst, stmp_2 _ _ _ _ (Ne.symm a4), nxtE_2 hn (by decide)]
  have r5 : X.2 5 = va_up (z.2 5) (z.1 8) 1 := by
    rw [eX, clm_2 _ _ _ (by decide) (by decide) (by decide), prg_5, stmp_2 _ _ _ _ (Ne.symm a5), nxtE_2 hn (by decide)]
  have r9 : X.2 9 = va_up (z.2 9) (z.1 8) 1 := by
    rw [eX, clm_9, prg_2 _ _ _ _ (by decide) (by decide), stmp_2 _ _ _ _ (Ne.symm a9), nxtE_2 hn (by decide)]
  have r10 : X.2 10 = va_up (z.2 10) (sg (z.1 8)) (z.2 10 (sg (z.1 8)) + 1) := by
    rw [eX, clm_10a, prg_2 _ _ _ _ (by decide) (by decide), stmp_2 _ _ _ _ (Ne.symm a10), nxtE_2 hn (by decide)]
  have r11 : X.2 11 = z.2 11 := by
    rw [eX, clm_11a, prg_2 _ _ _ _ (by decide) (by decide), stmp_2 _ _ _ _ (Ne.symm a11), nxtE_2 hn (by decide)]
  have r12 : X.2 12 = y.2 12 := by
    rw [eX, clm_2 _ _ _ (by decide) (by decide) (by decide), prg_2 _ _ _ _ (by decide) (by decide), stmp_2 _ _ _ _ (Ne.symm a12)]
  have ra : X.2 a = ndW (z.2 a) n k (z.1 11) e := by
    rw [eX, clm_2 _ _ _ a9 a10 a11, prg_2 _ _ _ _ a4 a5, hst]
  have rn : ∀ b, b ≠ 4 → b ≠ 5 → b ≠ 9 → b ≠ 10 → b ≠ 11 → b ≠ 12 → b ≠ a → X.2 b = z.2 b := by
    intro b h4 h5 h9 h10 h11 h12 hba
    rw [eX, clm_2 _ _ _ h9 h10 h11, prg_2 _ _ _ _ h4 h5, stmp_2 _ _ _ _ hba, nxtE_2 hn h12]
  have r1 : ∀ j, X.1 j = if j = 8 then e else y.1 j := by
    intro j
    rw [eX, clm_1, prg_1, stmp_1]
  obtain ⟨hL, hUz⟩ := write_LG (k := 1) (E := 8) (O := 9) (A := 10) (B := 11) (Or.inl ⟨rfl, rfl, rfl, rfl, rfl⟩) h rfl hn r1 r5 r9 r12 r10 r11 (fun b hb i hi => by
    unfold zW
    rw [r4, cpy_zW _ _ _ _ _ hi, if_neg hb])
  obtain ⟨hL2, hU2⟩ := drop_LG hL (z.2 6 n)
  have hply : plZ y n = z.2 6 n := by
    unfold plZ
    rw [if_pos ⟨hn1, hn2⟩, nxtE_2 hn (by decide)]
  obtain ⟨Y, eY⟩ : ∃ Y, Y = drpZ (z.2 6 n) X := ⟨_, rfl⟩
  have ep : pnZ y a n k (z.1 8) e = zA Y 6 n (z.1 8) := by
    unfold pnZ setPl
    rw [if_pos ⟨hn1, hn2⟩, hply, ← eX, ← eY]
  rw [ep]
  have X8 : X.1 8 = e := by rw [r1, if_pos rfl]
  have Y1 : Y.1 = X.1 := by rw [eY, drp_1]
  have z6 : ∀ b, b ≠ 6 → (zA Y 6 n (z.1 8)).2 b = Y.2 b := fun b hb => by rw [zA2, if_neg hb]
  rw [← eY] at hL2 hU2
  have e8 : (zA Y 6 n (z.1 8)).1 8 = e := by rw [zA1, Y1, X8]
  refine ⟨_, rfl, ?_, ?_, ?_, ?_, ?_, ?_, ?_, ?_, ?_, d4, d5, d1, d2, hne, fun s hs => ?_, by rw [e8]; exact nxtE_sg hn d1, nxtE_nx hn rfl e8 (by rw [z6 12 (by decide), eY, drp_2 _ _ (by decide) (by decide) (by decide), r12])⟩
  · exact hL2
  · rw [e8, z6 4 (by decide), eY, drp_2 _ _ (by decide) (by decide) (by decide), r4]
  · rw [z6 5 (by decide), eY, drp_2 _ _ (by decide) (by decide) (by decide), r5]
  · rw [zA2, if_pos rfl, eY, drp_2 _ _ (by decide) (by decide) (by decide), rn 6 (by decide) (by decide) (by decide) (by decide) (by decide) (by decide) (Ne.symm a6)]
  · rw [z6 9 (by decide), eY, drp_9 hL, r9]
  · rw [e8, z6 a a6, eY, drp_2 _ _ a9 a10 a11, ra]
  · intro b h4 h5 h6 h9 h10 h11 h12 hba
    rw [z6 b h6, eY, drp_2 _ _ h9 h10 h11, rn b h4 h5 h9 h10 h11 h12 hba]
  · intro j h7 h8 h10
    rw [zA1, Y1, r1, if_neg h8, nxtE_1 hn h7 h10]
  · show Uz Y + 1 = Uz z
    omega
  · refine nxtE_12 hn s ?_
    rw [z6 12 (by decide), eY, drp_2 _ _ (by decide) (by decide) (by decide), r12] at hs
    exact hs
