/-! the log's single steps -/
def sg (p : Nat) : Nat := (p - 69) / 16
theorem segmentOf_in (FU : Nat) (g : St) {p : Nat} (h1 : 69 ≤ p) (h2 : p < 2117) : FF_segmentOf FU (nI p) g = some (nI (sg p)) := by
  unfold FF_segmentOf sg
  simp (disch := omega) only [lit_nI, nI_ltI, nI_leI, nI_eq, nI_add, pk_sub, pk_div, nI_64, rdA_z, wrA_z, cpy_z, up1, up_I, nz_n0, nz_n1, zI1, zI2, zR1, zR2, zA1, zA2, Option.bind_some, nx_eq, if_true, if_false, if_pos, if_neg]
theorem segmentOf_out (FU : Nat) (g : St) {p : Nat} (hp : p < 2 ^ 31) (h : p < 69 ∨ 2117 ≤ p) : FF_segmentOf FU (nI p) g = some (-1) := by
  unfold FF_segmentOf
  by_cases h1 : p < 69
  · simp (disch := omega) only [lit_nI, nI_ltI, nI_leI, nI_eq, nI_add, pk_sub, pk_div, nI_64, rdA_z, wrA_z, cpy_z, up1, up_I, nz_n0, nz_n1, zI1, zI2, zR1, zR2, zA1, zA2, Option.bind_some, nx_eq, if_true, if_false, if_pos, if_neg]
  · have h2 : 2117 ≤ p := by omega
    simp (disch := omega) only [lit_nI, nI_ltI, nI_leI, nI_eq, nI_add, pk_sub, pk_div, nI_64, rdA_z, wrA_z, cpy_z, up1, up_I, nz_n0, nz_n1, zI1, zI2, zR1, zR2, zA1, zA2, Option.bind_some, nx_eq, if_true, if_false, if_pos, if_neg]
theorem neg_lt0 : (-1 : Int32) < 0 := by decide
theorem neg_nle0 : ¬ (0 : Int32) ≤ -1 := by decide
def clmZ (p k : Nat) (z : NSt) : NSt := zA (zA z 9 p k) (if k = 1 then 10 else 11) (sg p) (z.2 (if k = 1 then 10 else 11) (sg p) + 1)
theorem sg_lt {p : Nat} (h1 : 69 ≤ p) (h2 : p < 2117) : sg p < 128 := by
  unfold sg
  omega
theorem Log_claim_z (FU : Nat) (z : NSt) {p k : Nat} (h1 : 69 ≤ p) (h2 : p < 2117) (hk : k = 1 ∨ k = 2) : Log_claim FU (nI p) (nI k) (up z) = some (up (clmZ p k z)) := by
  have hs := sg_lt h1 h2
  unfold Log_claim clmZ
  rw [segmentOf_in FU _ h1 h2]
  rcases hk with rfl | rfl
  · simp (disch := omega) only [lit_nI, nI_ltI, nI_leI, nI_eq, nI_add, pk_sub, pk_div, nI_64, rdA_z, wrA_z, cpy_z, up1, up_I, nz_n0, nz_n1, zI1, zI2, zR1, zR2, zA1, zA2, Option.bind_some, nx_eq, if_true, if_false, if_pos, if_neg]
  · simp (disch := omega) only [lit_nI, nI_ltI, nI_leI, nI_eq, nI_add, pk_sub, pk_div, nI_64, rdA_z, wrA_z, cpy_z, up1, up_I, nz_n0, nz_n1, zI1, zI2, zR1, zR2, zA1, zA2, Option.bind_some, nx_eq, if_true, if_false, if_pos, if_neg]
def drpZ (p : Nat) (z : NSt) : NSt := if 69 ≤ p ∧ p < 2117 ∧ z.2 9 p ≠ 0 then zA (zA z (if z.2 9 p = 1 then 10 else 11) (sg p) (z.2 (if z.2 9 p = 1 then 10 else 11) (sg p) - 1)) 9 p 0 else z
theorem Log_drop_z (FU : Nat) (z : NSt) {p : Nat} (hp : p < 2 ^ 31) (hu : z.2 9 p ≤ 2) (hc : 69 ≤ p → p < 2117 → z.2 9 p ≠ 0 → 1 ≤ z.2 (if z.2 9 p = 1 then 10 else 11) (sg p)) : Log_drop FU (nI p) (up z) = some (up (drpZ p z)) := by
  unfold Log_drop drpZ
  by_cases h1 : 69 ≤ p ∧ p < 2117
  · have hs := sg_lt h1.1 h1.2
    rw [segmentOf_in FU _ h1.1 h1.2]
    by_cases h2 : z.2 9 p = 0
    · rw [if_neg (fun q => q.2.2 h2)]
      simp (disch := omega) only [lit_nI, nI_ltI, nI_leI, nI_eq, nI_add, pk_sub, pk_div, nI_64, rdA_z, wrA_z, cpy_z, up1, up_I, nz_n0, nz_n1, zI1, zI2, zR1, zR2, zA1, zA2, Option.bind_some, nx_eq, if_true, if_false, if_pos, if_neg, h2]
    · rw [if_pos ⟨h1.1, h1.2, h2⟩]
      have hc := hc h1.1 h1.2 h2
      by_cases h3 : z.2 9 p = 1
      · rw [if_pos h3] at hc ⊢
        simp (disch := omega) only [lit_nI, nI_ltI, nI_leI, nI_eq, nI_add, pk_sub, pk_div, nI_64, rdA_z, wrA_z, cpy_z, up1, up_I, nz_n0, nz_n1, zI1, zI2, zR1, zR2, zA1, zA2, Option.bind_some, nx_eq, if_true, if_false, if_pos, if_neg, h3]
      · have h3 : z.2 9 p = 2 := by omega
        rw [if_neg (by omega)] at hc ⊢
        simp (disch := omega) only [lit_nI, nI_ltI, nI_leI, nI_eq, nI_add, pk_sub, pk_div, nI_64, rdA_z, wrA_z, cpy_z, up1, up_I, nz_n0, nz_n1, zI1, zI2, zR1, zR2, zA1, zA2, Option.bind_some, nx_eq, if_true, if_false, if_pos, if_neg, h3]
  · rw [segmentOf_out FU _ hp (by omega), if_neg (fun q => h1 ⟨q.1, q.2.1⟩), Option.bind_some, if_pos neg_lt0]
theorem Log_isLast_z (FU : Nat) (g : St) {p : Nat} (h1 : 69 ≤ p) (h2 : p < 2117) : Log_isLast FU (nI p) g = some (nI (if (p - 69) % 16 = 15 then 1 else 0)) := by
  unfold Log_isLast
  rw [show (69 : Int32) = nI 69 from rfl, pk_sub h1, show (16 : Int32) = nI 16 from rfl, pk_rem (by omega) (by decide) (by decide)]
  by_cases h : (p - 69) % 16 = 15
  · simp (disch := omega) only [lit_nI, nI_ltI, nI_leI, nI_eq, nI_add, pk_sub, pk_div, nI_64, rdA_z, wrA_z, cpy_z, up1, up_I, nz_n0, nz_n1, zI1, zI2, zR1, zR2, zA1, zA2, Option.bind_some, nx_eq, if_true, if_false, if_pos, if_neg, h]
  · have : (p - 69) % 16 < 16 := Nat.mod_lt _ (by decide)
    simp (disch := omega) only [lit_nI, nI_ltI, nI_leI, nI_eq, nI_add, pk_sub, pk_div, nI_64, rdA_z, wrA_z, cpy_z, up1, up_I, nz_n0, nz_n1, zI1, zI2, zR1, zR2, zA1, zA2, Option.bind_some, nx_eq, if_true, if_false, if_pos, if_neg]
theorem firstOf_z (FU : Nat) (g : St) (s : Nat) : FF_firstOf FU (nI s) g = some (nI (69 + 16 * s)) := by
  unfold FF_firstOf
  rw [show (16 : Int32) = nI 16 from rfl, pk_mul, show (69 : Int32) = nI 69 from rfl, nI_add, Nat.mul_comm s 16]
def opnZ (s : Nat) (z : NSt) : NSt := zI (zI (zA z 12 s 0) 7 (z.1 7 - 1)) 10 s
theorem openSegment_b (FU : Nat) (z : NSt) (hS : 0 < z.1 6 ∧ z.1 6 ≤ 128) (hl : z.1 10 < z.1 6) (hf : ∀ s, z.2 12 s < 2 ^ 32) (h7 : 1 ≤ z.1 7) : ∀ (m i n : Nat), 1 ≤ i → i + m = z.1 6 + 1 → m < n → (∃ j, i ≤ j ∧ j ≤ z.1 6 ∧ z.2 12 ((z.1 10 + j) % z.1 6) ≠ 0) → Ev (Log_openSegment_b2 FU n (nI i) (up z)) fun r => ∃ s, s < z.1 6 ∧ z.2 12 s ≠ 0 ∧ r = (nI (69 + 16 * s), up (opnZ s z)) := by
  intro m
  induction m with
  | zero =>
    intro i n h0 h1 h2 h3
    obtain ⟨j, h4, h5, h6⟩ := h3
    omega
  | succ m ih =>
    intro i n h0 h1 h2 h3
    obtain ⟨n, rfl⟩ : ∃ q9, n = q9 + 1 := ⟨n - 1, by omega⟩
    unfold Log_openSegment_b2
    have hs : (z.1 10 + i) % z.1 6 < z.1 6 := Nat.mod_lt _ hS.1
    have hrem : nI (z.1 10) + nI i - (nI (z.1 10) + nI i) / nI (z.1 6) * nI (z.1 6) = nI ((z.1 10 + i) % z.1 6) := by
      rw [nI_add, pk_rem (by omega) hS.1 (by omega)]
    simp only [up1]
    rw [hrem]
    simp (disch := omega) only [lit_nI, nI_ltI, nI_leI, nI_eq, nI_add, pk_sub, pk_div, nI_64, rdA_z, wrA_z, cpy_z, up1, up_I, nz_n0, nz_n1, zI1, zI2, zR1, zR2, zA1, zA2, Option.bind_some, nx_eq, if_true, if_false, if_pos, if_neg, nI_inj (hf _)]
    by_cases h4 : z.2 12 ((z.1 10 + i) % z.1 6) = 0
    · rw [if_pos h4]
      obtain ⟨j, h5, h6, h7'⟩ := h3
      refine ih (i + 1) n (by omega) (by omega) (by omega) ⟨j, ?_, h6, h7'⟩
      have : j ≠ i := fun e => h7' (by rw [e]; exact h4)
      omega
    · rw [if_neg h4]
      refine Ev.ret ⟨_, hs, h4, ?_⟩
      refine Prod.ext ?_ ?_
      · show nI 69 + nI ((z.1 10 + i) % z.1 6) * nI 16 = _
        rw [pk_mul, nI_add, Nat.mul_comm _ 16]
      · rfl
theorem Log_openSegment_z {FU : Nat} (z : NSt) (hF : 200 < FU) (hS : 0 < z.1 6 ∧ z.1 6 ≤ 128) (hl : z.1 10 < z.1 6) (hf : ∀ s, z.2 12 s < 2 ^ 32) (h7 : 1 ≤ z.1 7) (hx : ∃ s, s < z.1 6 ∧ z.2 12 s ≠ 0) : Ev (Log_openSegment FU (up z)) fun r => ∃ s, s < z.1 6 ∧ z.2 12 s ≠ 0 ∧ r = (nI (69 + 16 * s), up (opnZ s z)) := by
  refine openSegment_b FU z hS hl hf h7 (z.1 6) 1 FU (by omega) (by omega) (by omega) ?_
  obtain ⟨s, h1, h2⟩ := hx
  refine ⟨if z.1 10 < s then s - z.1 10 else s + z.1 6 - z.1 10, ?_, ?_, ?_⟩
  · split <;> omega
  · split <;> omega
  · have e : (z.1 10 + if z.1 10 < s then s - z.1 10 else s + z.1 6 - z.1 10) % z.1 6 = s := by
      split
      · rw [show z.1 10 + (s - z.1 10) = s by omega, Nat.mod_eq_of_lt h1]
      · rw [show z.1 10 + (s + z.1 6 - z.1 10) = s + z.1 6 by omega, Nat.add_mod_right, Nat.mod_eq_of_lt h1]
    rw [e]
    exact h2
/-- where an end goes on -/
def nxtE (z : NSt) (d e : Nat) (y : NSt) : Prop := ((d - 69) % 16 ≠ 15 ∧ e = d + 1 ∧ y = z) ∨ ((d - 69) % 16 = 15 ∧ ∃ s, s < z.1 6 ∧ z.2 12 s ≠ 0 ∧ e = 69 + 16 * s ∧ y = opnZ s z)
theorem Log_putData_z {FU : Nat} (z : NSt) (a : Nat) (hF : 200 < FU) (ha : 64 ≤ lenF a) (hS : 0 < z.1 6 ∧ z.1 6 ≤ 128) (hl : z.1 10 < z.1 6) (hf : ∀ s, z.2 12 s < 2 ^ 32) (h7 : 1 ≤ z.1 7) (hx : ∃ s, s < z.1 6 ∧ z.2 12 s ≠ 0) (h1 : 69 ≤ z.1 9) (h2 : z.1 9 < 2117) (hw : z.2 5 (z.1 9) = 0) :
    Ev (Log_putData FU a (up z)) fun r => ∃ e y, nxtE z (z.1 9) e y ∧ r = (nI (z.1 9), up (clmZ (z.1 9) 2 (prg (zI y 9 e) a (z.1 9) 0))) := by
  have key : ∀ (e : Nat) (y : NSt), y.2 5 (z.1 9) = 0 → Log_putData_b24 FU a (nI (z.1 9)) (nI e) (up y) = some (nI (z.1 9), up (clmZ (z.1 9) 2 (prg (zI y 9 e) a (z.1 9) 0))) := by
    intro e y hy
    unfold Log_putData_b24
    simp only [nx_eq, up_I]
    rw [show (0 : Int32) = nI 0 from rfl, Dev_program_e FU (zI y 9 e) a h2 (k := 0) (by omega) hy, Option.bind_some, show (2 : Int32) = nI 2 from rfl, Log_claim_z FU _ h1 h2 (Or.inr rfl), Option.bind_some]
  unfold Log_putData
  simp only [up1]
  rw [Log_isLast_z FU _ h1 h2, Option.bind_some]
  by_cases h : (z.1 9 - 69) % 16 = 15
  · rw [if_pos h]
    simp (disch := omega) only [lit_nI, nI_ltI, nI_leI, nI_eq, nI_add, pk_sub, pk_div, nI_64, rdA_z, wrA_z, cpy_z, up1, up_I, nz_n0, nz_n1, zI1, zI2, zR1, zR2, zA1, zA2, Option.bind_some, nx_eq, if_true, if_false, if_pos, if_neg]
    refine (Log_openSegment_z z hF hS hl hf h7 hx).bd ?_
    rintro r ⟨s, h3, h4, rfl⟩
    refine Ev.eqn (key (69 + 16 * s) (opnZ s z) hw) ⟨_, _, Or.inr ⟨h, s, h3, h4, rfl, rfl⟩, rfl⟩
  · rw [if_neg h]
    simp (disch := omega) only [lit_nI, nI_ltI, nI_leI, nI_eq, nI_add, pk_sub, pk_div, nI_64, rdA_z, wrA_z, cpy_z, up1, up_I, nz_n0, nz_n1, zI1, zI2, zR1, zR2, zA1, zA2, Option.bind_some, nx_eq, if_true, if_false, if_pos, if_neg]
    exact Ev.eqn (key _ z hw) ⟨_, _, Or.inl ⟨h, rfl, rfl⟩, rfl⟩
theorem opn_1 (s : Nat) (z : NSt) (k : Nat) : (opnZ s z).1 k = if k = 10 then s else if k = 7 then z.1 7 - 1 else z.1 k := rfl
theorem opn_2 (s : Nat) (z : NSt) {b : Nat} (h : b ≠ 12) : (opnZ s z).2 b = z.2 b := if_neg h
theorem opn_12 (s : Nat) (z : NSt) : (opnZ s z).2 12 = va_up (z.2 12) s 0 := rfl
theorem prg_1 (z : NSt) (a b k : Nat) : (prg z a b k).1 = z.1 := rfl
theorem prg_2 (z : NSt) (a b k : Nat) {c : Nat} (h4 : c ≠ 4) (h5 : c ≠ 5) : (prg z a b k).2 c = z.2 c := by
  unfold prg
  rw [zA2, if_neg h5, zR2, if_neg h4]
theorem prg_4 (z : NSt) (a b k : Nat) : (prg z a b k).2 4 = va_cpy (z.2 a) (z.2 4) k (64 * b) 64 := rfl
theorem prg_5 (z : NSt) (a b k : Nat) : (prg z a b k).2 5 = va_up (z.2 5) b 1 := rfl
theorem clm_1 (p k : Nat) (z : NSt) : (clmZ p k z).1 = z.1 := rfl
theorem clm_2 (p k : Nat) (z : NSt) {b : Nat} (h9 : b ≠ 9) (h10 : b ≠ 10) (h11 : b ≠ 11) : (clmZ p k z).2 b = z.2 b := by
  unfold clmZ
  rw [zA2, if_neg (by split <;> assumption), zA2, if_neg h9]
theorem clm_9 (p k : Nat) (z : NSt) : (clmZ p k z).2 9 = va_up (z.2 9) p k := by
  unfold clmZ
  rw [zA2, if_neg (by split <;> decide), zA2, if_pos rfl]
theorem clm_10a (p : Nat) (z : NSt) : (clmZ p 1 z).2 10 = va_up (z.2 10) (sg p) (z.2 10 (sg p) + 1) := rfl
theorem clm_11a (p : Nat) (z : NSt) : (clmZ p 1 z).2 11 = z.2 11 := rfl
theorem clm_10b (p : Nat) (z : NSt) : (clmZ p 2 z).2 10 = z.2 10 := rfl
theorem clm_11b (p : Nat) (z : NSt) : (clmZ p 2 z).2 11 = va_up (z.2 11) (sg p) (z.2 11 (sg p) + 1) := rfl
/-- a node as it comes to the device -/
def stmp (z : NSt) (a n k e : Nat) : NSt := zA (zA (zA (zA (zI z 8 e) a 59 k) a 60 n) a 62 (z.1 11)) a 63 e
theorem stmp_1 (z : NSt) (a n k e j : Nat) : (stmp z a n k e).1 j = if j = 8 then e else z.1 j := rfl
theorem stmp_2 (z : NSt) {a : Nat} (n k e : Nat) {b : Nat} (h : b ≠ a) : (stmp z a n k e).2 b = z.2 b := by
  unfold stmp
  rw [zA2, if_neg h, zA2, if_neg h, zA2, if_neg h, zA2, if_neg h, zI2]
theorem stmp_a (z : NSt) (a n k e i : Nat) : (stmp z a n k e).2 a i = if i = 63 then e else if i = 62 then z.1 11 else if i = 60 then n else if i = 59 then k else z.2 a i := by
  unfold stmp
  rw [zA2, if_pos rfl]
  unfold va_up
  split
  · rfl
  · rw [zA2, if_pos rfl]
    unfold va_up
    split
    · rfl
    · rw [zA2, if_pos rfl]
      unfold va_up
      split
      · rfl
      · rw [zA2, if_pos rfl]
        unfold va_up
        split <;> rfl
def pnZ (z : NSt) (a n k q e : Nat) : NSt := setPl n q (drpZ (plZ z n) (clmZ q 1 (prg (stmp z a n k e) a q 0)))
theorem Log_putNode_z {FU : Nat} (z : NSt) {a n k : Nat} (hF : 200 < FU) (ha : lenF a = 64) (hab : a ≠ 6 ∧ a ≠ 9 ∧ a ≠ 10 ∧ a ≠ 11 ∧ a ≠ 5 ∧ a ≠ 4 ∧ a ≠ 12) (hS : 0 < z.1 6 ∧ z.1 6 ≤ 128) (hl : z.1 10 < z.1 6) (hf : ∀ s, z.2 12 s < 2 ^ 32) (h7 : 1 ≤ z.1 7) (hx : ∃ s, s < z.1 6 ∧ z.2 12 s ≠ 0) (h1 : 69 ≤ z.1 8) (h2 : z.1 8 < 2117) (hw : z.2 5 (z.1 8) = 0) (hn : n < 2 ^ 31)
    (hp : plZ z n < 2 ^ 31) (hpe : plZ z n ≠ z.1 8) (hu : z.2 9 (plZ z n) ≤ 2) (hc : 69 ≤ plZ z n → plZ z n < 2117 → z.2 9 (plZ z n) ≠ 0 → 1 ≤ z.2 (if z.2 9 (plZ z n) = 1 then 10 else 11) (sg (plZ z n))) :
    Ev (Log_putNode FU a (nI n) (nI k) (up z)) fun r => ∃ e y, nxtE z (z.1 8) e y ∧ r = up (pnZ y a n k (z.1 8) e) := by
  obtain ⟨a6, a9, a10, a11, a5, a4, a12⟩ := hab
  have key : ∀ (e : Nat) (y : NSt), (∀ b, b ≠ 12 → y.2 b = z.2 b) → y.1 11 = z.1 11 → Log_putNode_b27 FU a (nI n) (nI k) (nI (z.1 8)) (nI e) (up y) = some (up (pnZ y a n k (z.1 8) e)) := by
    intro e y hy hy11
    have hpl : plZ y n = plZ z n := by
      unfold plZ
      rw [hy 6 (by decide)]
    unfold Log_putNode_b27
    rw [ha]
    have hst : (stmp y a n k e).2 5 (z.1 8) = 0 := by
      rw [stmp_2 _ _ _ _ (Ne.symm a5), hy 5 (by decide)]
      exact hw
    have hpl2 : plZ (clmZ (z.1 8) 1 (prg (stmp y a n k e) a (z.1 8) 0)) n = plZ y n := by
      unfold plZ
      rw [clm_2 _ _ _ (by decide) (by decide) (by decide), prg_2 _ _ _ _ (by decide) (by decide), stmp_2 _ _ _ _ (Ne.symm a6)]
    simp (disch := omega) only [lit_nI, nI_ltI, nI_leI, nI_eq, nI_add, pk_sub, pk_div, nI_64, rdA_z, wrA_z, cpy_z, up1, up_I, nz_n0, nz_n1, zI1, zI2, zR1, zR2, zA1, zA2, Option.bind_some, nx_eq, if_true, if_false, if_pos, if_neg]
    obtain ⟨Y, eY⟩ : ∃ Y, Y = clmZ (z.1 8) 1 (prg (stmp y a n k e) a (z.1 8) 0) := ⟨_, rfl⟩
    have r9 : Y.2 9 = va_up (z.2 9) (z.1 8) 1 := by
      rw [eY, clm_9, prg_2 _ _ _ _ (by decide) (by decide), stmp_2 _ _ _ _ (Ne.symm a9), hy 9 (by decide)]
    have r10 : Y.2 10 = va_up (z.2 10) (sg (z.1 8)) (z.2 10 (sg (z.1 8)) + 1) := by
      rw [eY, clm_10a, prg_2 _ _ _ _ (by decide) (by decide), stmp_2 _ _ _ _ (Ne.symm a10), hy 10 (by decide)]
    have r11 : Y.2 11 = z.2 11 := by
      rw [eY, clm_11a, prg_2 _ _ _ _ (by decide) (by decide), stmp_2 _ _ _ _ (Ne.symm a11), hy 11 (by decide)]
    refine bd_eq (Dev_program_e FU (stmp y a n k e) a (k := 0) h2 (by omega) hst) ?_
    refine bd_eq (Log_claim_z FU _ h1 h2 (Or.inl rfl)) ?_
    refine bd_eq (Tab_placeOf_z FU _ hn) ?_
    rw [hpl2, hpl, ← eY]
    have u9 : Y.2 9 (plZ z n) = z.2 9 (plZ z n) := by rw [r9]; exact va_up_ne _ _ hpe
    refine bd_eq (Log_drop_z FU Y hp (by rw [u9]; exact hu) (fun g1 g2 g3 => ?_)) ?_
    · rw [u9] at g3 ⊢
      have := hc g1 g2 g3
      by_cases q : z.2 9 (plZ z n) = 1
      · rw [if_pos q] at this ⊢
        rw [r10]
        unfold va_up
        split
        · omega
        · exact this
      · rw [if_neg q] at this ⊢
        rw [r11]
        exact this
    · refine bd_eq (Tab_setPlace_z FU _ hn) ?_
      unfold pnZ
      rw [hpl, eY]
  unfold Log_putNode
  simp only [up1]
  rw [Log_isLast_z FU _ h1 h2, Option.bind_some]
  by_cases h : (z.1 8 - 69) % 16 = 15
  · rw [if_pos h]
    simp (disch := omega) only [lit_nI, nI_ltI, nI_leI, nI_eq, nI_add, pk_sub, pk_div, nI_64, rdA_z, wrA_z, cpy_z, up1, up_I, nz_n0, nz_n1, zI1, zI2, zR1, zR2, zA1, zA2, Option.bind_some, nx_eq, if_true, if_false, if_pos, if_neg]
    refine (Log_openSegment_z z hF hS hl hf h7 hx).bd ?_
    rintro r ⟨s, h3, h4, rfl⟩
    refine Ev.eqn (key (69 + 16 * s) (opnZ s z) (fun b hb => ?_) rfl) ⟨_, _, Or.inr ⟨h, s, h3, h4, rfl, rfl⟩, rfl⟩
    unfold opnZ
    simp only [zI2, zA2, if_neg hb]
  · rw [if_neg h]
    simp (disch := omega) only [lit_nI, nI_ltI, nI_leI, nI_eq, nI_add, pk_sub, pk_div, nI_64, rdA_z, wrA_z, cpy_z, up1, up_I, nz_n0, nz_n1, zI1, zI2, zR1, zR2, zA1, zA2, Option.bind_some, nx_eq, if_true, if_false, if_pos, if_neg]
    exact Ev.eqn (key _ z (fun _ _ => rfl) rfl) ⟨_, _, Or.inl ⟨h, rfl, rfl⟩, rfl⟩
