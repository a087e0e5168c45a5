/-! mounting claims what it finds -/
theorem LGc.up {z y : NSt} (h : LGc z) {b k : Nat} (hb : 69 ≤ b) (hu : z.2 9 b = 0) (hk : k = 1 ∨ k = 2) (e : y = clmZ b k z) : LGc y := by
  intro s hs
  obtain ⟨c1, c2⟩ := h s hs
  have u9 : y.2 9 = va_up (z.2 9) b k := by rw [e, clm_9]
  have f1 := cntF_up (u := z.2 9) (b := b) (v := k) hb 1 s
  have f2 := cntF_up (u := z.2 9) (b := b) (v := k) hb 2 s
  rw [hu] at f1 f2
  rw [if_neg (fun q => by have := q.2; omega)] at f1 f2
  rw [u9]
  rcases hk with rfl | rfl
  · rw [e, clm_10a, clm_11a]
    rw [if_neg (show ¬ (s = sg b ∧ (1 : Nat) = 2) from fun q => by have := q.2; omega)] at f2
    refine ⟨?_, by omega⟩
    unfold va_up at *
    by_cases c : s = sg b
    · rw [if_pos c, ← c]
      rw [if_pos ⟨c, rfl⟩] at f1
      omega
    · rw [if_neg c]
      rw [if_neg (fun q => c q.1)] at f1
      omega
  · rw [e, clm_10b, clm_11b]
    rw [if_neg (show ¬ (s = sg b ∧ (2 : Nat) = 1) from fun q => by have := q.2; omega)] at f1
    refine ⟨by omega, ?_⟩
    unfold va_up at *
    by_cases c : s = sg b
    · rw [if_pos c, ← c]
      rw [if_pos ⟨c, rfl⟩] at f2
      omega
    · rw [if_neg c]
      rw [if_neg (fun q => c q.1)] at f2
      omega
/-- what is claimed so far: nodes by number, blocks by id and place in the file -/
def CLI (z : NSt) (W : Nat → Nat → Nat) (q : Nat → Nat) (N : Nat → Prop) (D : Nat → Nat → Prop) : Prop := (zV z = W) ∧ (∀ i, z.2 4 i < 2 ^ 32) ∧ (∀ b, z.2 9 b = 1 ↔ b ≠ 0 ∧ ∃ n, N n ∧ q n = b) ∧ (∀ b, z.2 9 b = 2 ↔ b ≠ 0 ∧ ∃ i k, D i k ∧ BPL W q i k = b) ∧ (∀ b, z.2 9 b ≤ 2) ∧ (LGc z)
theorem CLI.vw {z : NSt} {W : Nat → Nat → Nat} {q : Nat → Nat} {N : Nat → Prop} {D : Nat → Nat → Prop} (h9 : CLI z W q N D) : zV z = W := h9.1
theorem CLI.w4 {z : NSt} {W : Nat → Nat → Nat} {q : Nat → Nat} {N : Nat → Prop} {D : Nat → Nat → Prop} (h9 : CLI z W q N D) : ∀ i, z.2 4 i < 2 ^ 32 := h9.2.1
theorem CLI.u1 {z : NSt} {W : Nat → Nat → Nat} {q : Nat → Nat} {N : Nat → Prop} {D : Nat → Nat → Prop} (h9 : CLI z W q N D) : ∀ b, z.2 9 b = 1 ↔ b ≠ 0 ∧ ∃ n, N n ∧ q n = b := h9.2.2.1
theorem CLI.u2 {z : NSt} {W : Nat → Nat → Nat} {q : Nat → Nat} {N : Nat → Prop} {D : Nat → Nat → Prop} (h9 : CLI z W q N D) : ∀ b, z.2 9 b = 2 ↔ b ≠ 0 ∧ ∃ i k, D i k ∧ BPL W q i k = b := h9.2.2.2.1
theorem CLI.ub {z : NSt} {W : Nat → Nat → Nat} {q : Nat → Nat} {N : Nat → Prop} {D : Nat → Nat → Prop} (h9 : CLI z W q N D) : ∀ b, z.2 9 b ≤ 2 := h9.2.2.2.2.1
theorem CLI.uc {z : NSt} {W : Nat → Nat → Nat} {q : Nat → Nat} {N : Nat → Prop} {D : Nat → Nat → Prop} (h9 : CLI z W q N D) : LGc z := h9.2.2.2.2.2
/-- what is read out of the device fits -/
def RFI (W : Nat → Nat → Nat) (q : Nat → Nat) (R : TRE) : Prop := (TOK W q R) ∧ (∀ n, q n ≠ 0 → 69 ≤ q n ∧ q n < 2117 ∧ 1 ≤ n ∧ n < 2048 ∧ W (q n) 60 = n) ∧ (∀ i k, BPL W q i k ≠ 0 → 69 ≤ BPL W q i k ∧ BPL W q i k < 2117) ∧ (∀ i k i' k', BPL W q i k ≠ 0 → BPL W q i k = BPL W q i' k' → i = i' ∧ k = k') ∧ (∀ n i k, q n ≠ 0 → BPL W q i k ≠ q n)
theorem RFI.tok {W : Nat → Nat → Nat} {q : Nat → Nat} {R : TRE} (h9 : RFI W q R) : TOK W q R := h9.1
theorem RFI.qr {W : Nat → Nat → Nat} {q : Nat → Nat} {R : TRE} (h9 : RFI W q R) : ∀ n, q n ≠ 0 → 69 ≤ q n ∧ q n < 2117 ∧ 1 ≤ n ∧ n < 2048 ∧ W (q n) 60 = n := h9.2.1
theorem RFI.dr {W : Nat → Nat → Nat} {q : Nat → Nat} {R : TRE} (h9 : RFI W q R) : ∀ i k, BPL W q i k ≠ 0 → 69 ≤ BPL W q i k ∧ BPL W q i k < 2117 := h9.2.2.1
theorem RFI.di {W : Nat → Nat → Nat} {q : Nat → Nat} {R : TRE} (h9 : RFI W q R) : ∀ i k i' k', BPL W q i k ≠ 0 → BPL W q i k = BPL W q i' k' → i = i' ∧ k = k' := h9.2.2.2.1
theorem RFI.nd {W : Nat → Nat → Nat} {q : Nat → Nat} {R : TRE} (h9 : RFI W q R) : ∀ n i k, q n ≠ 0 → BPL W q i k ≠ q n := h9.2.2.2.2
theorem CLI.dat {z : NSt} {W : Nat → Nat → Nat} {q : Nat → Nat} {R : TRE} {N : Nat → Prop} {D : Nat → Nat → Prop} (hr : RFI W q R) (h : CLI z W q N D) {i k : Nat} (h0 : BPL W q i k ≠ 0) (hn : ¬ D i k) : CLI (clmZ (BPL W q i k) 2 z) W q N (fun i' k' => D i' k' ∨ (i' = i ∧ k' = k)) := by
  obtain ⟨r1, r2⟩ := hr.dr i k h0
  have hu : z.2 9 (BPL W q i k) = 0 := by
    have := h.ub (BPL W q i k)
    refine Classical.byContradiction (fun w => ?_)
    by_cases c : z.2 9 (BPL W q i k) = 1
    · obtain ⟨-, n, -, e⟩ := (h.u1 _).mp c
      exact hr.nd n i k (by rw [e]; exact h0) e.symm
    · obtain ⟨-, i', k', d, e⟩ := (h.u2 _).mp (by omega : z.2 9 (BPL W q i k) = 2)
      obtain ⟨e1, e2⟩ := hr.di i k i' k' h0 e.symm
      rw [← e1, ← e2] at d
      exact hn d
  have e9 : (clmZ (BPL W q i k) 2 z).2 9 = va_up (z.2 9) (BPL W q i k) 2 := clm_9 _ _ _
  have e4 : (clmZ (BPL W q i k) 2 z).2 4 = z.2 4 := clm_2 _ _ _ (by decide) (by decide) (by decide)
  refine ⟨by rw [← h.vw]; exact funext (zV_congr e4), by rw [e4]; exact h.w4, fun b => ?_, fun b => ?_, fun b => ?_, h.uc.up r1 hu (Or.inr rfl) rfl⟩
  · rw [e9]
    by_cases c : b = BPL W q i k
    · rw [c, va_up_self]
      refine ⟨fun w => by omega, fun ⟨_, n, _, e⟩ => ?_⟩
      exact absurd e.symm (hr.nd n i k (by rw [e]; exact h0))
    · rw [va_up_ne _ _ c]; exact h.u1 b
  · rw [e9]
    by_cases c : b = BPL W q i k
    · rw [c, va_up_self]
      exact ⟨fun _ => ⟨h0, i, k, Or.inr ⟨rfl, rfl⟩, rfl⟩, fun _ => rfl⟩
    · rw [va_up_ne _ _ c, h.u2 b]
      refine ⟨fun ⟨v, i', k', d, e⟩ => ⟨v, i', k', Or.inl d, e⟩, fun ⟨v, i', k', d, e⟩ => ⟨v, i', k', ?_, e⟩⟩
      rcases d with d | ⟨rfl, rfl⟩
      · exact d
      · exact absurd e.symm c
  · rw [e9]
    unfold va_up
    split
    · exact Nat.le_refl _
    · exact h.ub b
theorem CLI.node {z : NSt} {W : Nat → Nat → Nat} {q : Nat → Nat} {R : TRE} {N : Nat → Prop} {D : Nat → Nat → Prop} (hr : RFI W q R) (h : CLI z W q N D) {n : Nat} (h0 : q n ≠ 0) (hn : ¬ N n) : CLI (clmZ (q n) 1 z) W q (fun m => N m ∨ m = n) D := by
  obtain ⟨r1, r2, r3, r4, r5⟩ := hr.qr n h0
  have hu : z.2 9 (q n) = 0 := by
    have := h.ub (q n)
    refine Classical.byContradiction (fun w => ?_)
    by_cases c : z.2 9 (q n) = 1
    · obtain ⟨-, m, d, e⟩ := (h.u1 _).mp c
      have em := (hr.qr m (by rw [e]; exact h0)).2.2.2.2
      rw [e, r5] at em
      rw [← em] at d
      exact hn d
    · obtain ⟨-, i', k', d, e⟩ := (h.u2 _).mp (by omega : z.2 9 (q n) = 2)
      exact hr.nd n i' k' h0 e
  have e9 : (clmZ (q n) 1 z).2 9 = va_up (z.2 9) (q n) 1 := clm_9 _ _ _
  have e4 : (clmZ (q n) 1 z).2 4 = z.2 4 := clm_2 _ _ _ (by decide) (by decide) (by decide)
  refine ⟨by rw [← h.vw]; exact funext (zV_congr e4), by rw [e4]; exact h.w4, fun b => ?_, fun b => ?_, fun b => ?_, h.uc.up r1 hu (Or.inl rfl) rfl⟩
  · rw [e9]
    by_cases c : b = q n
    · rw [c, va_up_self]
      exact ⟨fun _ => ⟨h0, n, Or.inr rfl, rfl⟩, fun _ => rfl⟩
    · rw [va_up_ne _ _ c, h.u1 b]
      refine ⟨fun ⟨v, m, d, e⟩ => ⟨v, m, Or.inl d, e⟩, fun ⟨v, m, d, e⟩ => ⟨v, m, ?_, e⟩⟩
      rcases d with d | rfl
      · exact d
      · exact absurd e.symm c
  · rw [e9]
    by_cases c : b = q n
    · rw [c, va_up_self]
      refine ⟨fun w => by omega, fun ⟨_, i', k', d, e⟩ => ?_⟩
      exact absurd e (hr.nd n i' k' h0)
    · rw [va_up_ne _ _ c]; exact h.u2 b
  · rw [e9]
    unfold va_up
    split
    · omega
    · exact h.ub b
theorem CLI.cong {z : NSt} {W : Nat → Nat → Nat} {q : Nat → Nat} {N N' : Nat → Prop} {D D' : Nat → Nat → Prop} (h : CLI z W q N D) (hN : ∀ n, q n ≠ 0 → (N n ↔ N' n)) (hD : ∀ i k, BPL W q i k ≠ 0 → (D i k ↔ D' i k)) : CLI z W q N' D' := by
  refine ⟨h.vw, h.w4, fun b => ?_, fun b => ?_, h.ub, h.uc⟩
  · rw [h.u1 b]
    refine ⟨fun ⟨v, n, d, e⟩ => ⟨v, n, (hN n (by rw [e]; exact v)).mp d, e⟩, fun ⟨v, n, d, e⟩ => ⟨v, n, (hN n (by rw [e]; exact v)).mpr d, e⟩⟩
  · rw [h.u2 b]
    refine ⟨fun ⟨v, i, k, d, e⟩ => ⟨v, i, k, (hD i k (by rw [e]; exact v)).mp d, e⟩, fun ⟨v, i, k, d, e⟩ => ⟨v, i, k, (hD i k (by rw [e]; exact v)).mpr d, e⟩⟩
theorem claim_out (FU : Nat) (z : NSt) {p : Nat} (hp : p < 69) : Log_claim FU (nI p) (2 : Int32) (up z) = some (up z) := by
  unfold Log_claim
  rw [segmentOf_out FU _ (by omega) (Or.inl hp), Option.bind_some, if_neg neg_nle0]
theorem claimNode_b (FU : Nat) {W : Nat → Nat → Nat} {q : Nat → Nat} {R : TRE} (hr : RFI W q R) {N : Nat → Prop} {D : Nat → Nat → Prop} {p id base fr hi : Nat} (hp : p < 2117) (hh : hi ≤ 64) (hb : ∀ i, fr ≤ i → i < hi → BPL W q id (base + (i - fr)) = W p i % 4096) (hn : ∀ k, base ≤ k → k < base + (hi - fr) → ¬ D id k) : ∀ (m i n : Nat) (z : NSt), i + m = hi → m < n → fr ≤ i → CLI z W q N (fun i' k' => D i' k' ∨ (i' = id ∧ base ≤ k' ∧ k' < base + (i - fr))) → Ev (Chk_claimNode_b50 FU n (nI p) (nI hi) (nI i) (up z)) fun r => ∃ y, r = up y ∧ CLI y W q N (fun i' k' => D i' k' ∨ (i' = id ∧ base ≤ k' ∧ k' < base + (hi - fr))) ∧ y.1 = z.1 ∧ ∀ c, c ≠ 9 → c ≠ 10 → c ≠ 11 → y.2 c = z.2 c := by
  intro m
  induction m with
  | zero =>
    intro i n z e1 e2 e3 h
    obtain ⟨n, rfl⟩ : ∃ q9, n = q9 + 1 := ⟨n - 1, by omega⟩
    have e1 : i = hi := e1
    subst e1
    unfold Chk_claimNode_b50
    rw [if_pos (nI_le (Nat.le_refl _) (by omega))]
    exact Ev.ret ⟨z, rfl, h, rfl, fun _ _ _ _ => rfl⟩
  | succ m ih =>
    intro i n z e1 e2 e3 h
    obtain ⟨n, rfl⟩ : ∃ q9, n = q9 + 1 := ⟨n - 1, by omega⟩
    have h32 : zV z p i < 2 ^ 32 := zV_lt h.w4 p i
    have hbi := hb i e3 (by omega)
    unfold Chk_claimNode_b50
    rw [if_neg (nI_ge (by omega) (by omega)), Dev_word_e FU z hp (by omega), Option.bind_some, ← zV_W (by omega), and4095 h32, h.vw, ← hbi, nI_1]
    by_cases c : BPL W q id (base + (i - fr)) = 0
    · rw [c, claim_out FU z (by decide), Option.bind_some]
      refine ih (i + 1) n z (by omega) (by omega) (by omega) (h.cong (fun _ _ => Iff.rfl) (fun i' k' q0 => ?_))
      constructor
      · rintro (d | ⟨d1, d2, d3⟩)
        · exact Or.inl d
        · exact Or.inr ⟨d1, d2, by omega⟩
      · rintro (d | ⟨d1, d2, d3⟩)
        · exact Or.inl d
        · by_cases e : k' = base + (i - fr)
          · rw [d1, e, c] at q0; exact absurd rfl q0
          · exact Or.inr ⟨d1, d2, by omega⟩
    · obtain ⟨r1, r2⟩ := hr.dr _ _ c
      rw [show (2 : Int32) = nI 2 from rfl, Log_claim_z FU z r1 r2 (Or.inr rfl), Option.bind_some]
      have hnew := CLI.dat hr h c (fun w => by
        rcases w with w | ⟨-, -, w⟩
        · exact hn _ (by omega) (by omega) w
        · omega)
      refine (ih (i + 1) n _ (by omega) (by omega) (by omega) (hnew.cong (fun _ _ => Iff.rfl) (fun i' k' _ => ?_))).mono ?_
      · constructor
        · rintro ((d | ⟨d1, d2, d3⟩) | ⟨d1, d2⟩)
          · exact Or.inl d
          · exact Or.inr ⟨d1, d2, by omega⟩
          · exact Or.inr ⟨d1, by omega, by omega⟩
        · rintro (d | ⟨d1, d2, d3⟩)
          · exact Or.inl (Or.inl d)
          · by_cases e : k' = base + (i - fr)
            · exact Or.inr ⟨d1, e⟩
            · exact Or.inl (Or.inr ⟨d1, d2, by omega⟩)
      · rintro r ⟨y, rfl, y1, y2, y3⟩
        exact ⟨y, rfl, y1, by rw [y2, clm_1], fun c c9 c10 c11 => by rw [y3 c c9 c10 c11, clm_2 _ _ _ c9 c10 c11]⟩
theorem claimNode_s {FU : Nat} (hF : 140000 < FU) {W : Nat → Nat → Nat} {q : Nat → Nat} {R : TRE} (hr : RFI W q R) {N : Nat → Prop} {D : Nat → Nat → Prop} {n id base fr hi : Nat} (h0 : q n ≠ 0) (hN : ¬ N n) (hlv : W (q n) 58 ≤ 2) (hfr : fr = pFr (W (q n) 58)) (hhi : hi = fr + pNo (W (q n) 58) (W (q n) 0)) (hb : ∀ i, fr ≤ i → i < hi → BPL W q id (base + (i - fr)) = W (q n) i % 4096) (hn : ∀ k, base ≤ k → k < base + (hi - fr) → ¬ D id k) {z : NSt} (h : CLI z W q N D) :
    Ev (Chk_claimNode FU (nI (q n)) (up z)) fun r => ∃ y, r = up y ∧ CLI y W q (fun m => N m ∨ m = n) (fun i' k' => D i' k' ∨ (i' = id ∧ base ≤ k' ∧ k' < base + (hi - fr))) ∧ y.1 = z.1 ∧ ∀ c, c ≠ 9 → c ≠ 10 → c ≠ 11 → y.2 c = z.2 c := by
  obtain ⟨r1, r2, r3, r4, r5⟩ := hr.qr n h0
  have hnew := CLI.node hr h h0 hN
  obtain ⟨y, ey⟩ : ∃ y, y = clmZ (q n) 1 z := ⟨_, rfl⟩
  have hhi64 : hi ≤ 64 := by
    rw [hhi, hfr]
    unfold pFr pNo
    by_cases c : W (q n) 58 = 0
    · rw [if_pos c, if_pos c]
      split <;> omega
    · rw [if_neg c, if_neg c]
      split <;> omega
  have hk32 : W (q n) 0 < 2 ^ 32 := by rw [← h.vw]; exact zV_lt h.w4 _ _
  unfold Chk_claimNode
  rw [if_neg (ne0_I (by omega) h0), show (1 : Int32) = nI 1 from rfl, Log_claim_z FU z r1 r2 (Or.inl rfl), Option.bind_some, ← ey]
  rw [← ey] at hnew
  have e1 : FF_pointersFrom FU (nI (W (q n) 58)) (up y) = some (nI fr) := by
    rw [hfr]
    unfold FF_pointersFrom pFr
    by_cases d : W (q n) 58 = 0
    · rw [if_pos d, d, if_pos i00]; rfl
    · rw [if_neg d, if_neg (ne0_I (by omega) d)]; rfl
  have e2 : FF_pointersIn FU (nI (W (q n) 58)) (nI (W (q n) 0)) (up y) = some (nI (hi - fr)) := by
    rw [show hi - fr = pNo (W (q n) 58) (W (q n) 0) by omega]
    unfold FF_pointersIn pNo
    by_cases d : W (q n) 58 = 0
    · rw [if_pos d, d, if_pos i00]
      by_cases d2 : W (q n) 0 = 2
      · rw [if_pos d2, d2, if_pos (by decide)]; rfl
      · rw [if_neg d2, if_neg (show ¬ nI (W (q n) 0) = (2 : Int32) from fun w => d2 ((nI_inj hk32 (by decide)).mp w))]; rfl
    · rw [if_neg d, if_neg (ne0_I (by omega) d)]
      by_cases d2 : W (q n) 58 = 1
      · rw [if_pos d2, d2, if_pos i11]; rfl
      · have d3 : W (q n) 58 = 2 := by omega
        rw [if_neg d2, d3, if_neg (by decide)]; rfl
  rw [show (58 : Int32) = nI 58 from rfl, Dev_word_e FU y r2 (by decide), Option.bind_some, ← zV_W (by decide), hnew.vw, e1, Option.bind_some, show (0 : Int32) = nI 0 from rfl, Dev_word_e FU y r2 (by decide), Option.bind_some, ← zV_W (by decide), hnew.vw, e2, Option.bind_some, nI_add, show fr + (hi - fr) = hi by omega]
  refine (claimNode_b FU hr (N := fun m => N m ∨ m = n) (D := D) (id := id) (base := base) (fr := fr) r2 hhi64 hb hn (hi - fr) fr FU y (by omega) (by omega) (Nat.le_refl _) (hnew.cong (fun _ _ => Iff.rfl) (fun i' k' _ => ⟨fun d => Or.inl d, fun d => d.elim (fun w => w) (fun w => by omega)⟩))).mono ?_
  rintro r ⟨x, rfl, x1, x2, x3⟩
  exact ⟨x, rfl, x1, by rw [x2, ey, clm_1], fun c c9 c10 c11 => by rw [x3 c c9 c10 c11, ey, clm_2 _ _ _ c9 c10 c11]⟩
/-- the numbers of ids below -/
def NI (W : Nat → Nat → Nat) (q : Nat → Nat) (R : TRE) (id n : Nat) : Prop := (1 ≤ n ∧ n < id) ∨ ∃ i j, i < id ∧ R.kd i = 1 ∧ j ≤ 7 ∧ NB W q i j = n ∧ n ≠ 0
def CLF (z : NSt) (W : Nat → Nat → Nat) (q : Nat → Nat) (R : TRE) (id : Nat) (J : Nat → Bool) : Prop := (CLI z W q (fun n => NI W q R id n ∨ n = id ∨ ∃ j, j ≤ 7 ∧ J j = true ∧ NB W q id j = n ∧ n ≠ 0) (fun i k => i < id ∨ (i = id ∧ (ndK k = 0 ∨ J (ndK k) = true)))) ∧ (∀ n, n ≤ 250 → z.2 6 n = q n) ∧ (∀ n, 250 < n → z.2 6 n ≠ 0 → z.2 6 n = q n ∧ (NI W q R id n ∨ ∃ j, j ≤ 7 ∧ J j = true ∧ NB W q id j = n)) ∧ (∀ n, 250 < n → (NI W q R id n ∨ ∃ j, j ≤ 7 ∧ J j = true ∧ NB W q id j = n) → z.2 6 n = q n) ∧ (∀ n, n < 2048 → z.2 7 n = q n)
theorem CLF.cl {z : NSt} {W : Nat → Nat → Nat} {q : Nat → Nat} {R : TRE} {id : Nat} {J : Nat → Bool} (h9 : CLF z W q R id J) : CLI z W q (fun n => NI W q R id n ∨ n = id ∨ ∃ j, j ≤ 7 ∧ J j = true ∧ NB W q id j = n ∧ n ≠ 0) (fun i k => i < id ∨ (i = id ∧ (ndK k = 0 ∨ J (ndK k) = true))) := h9.1
theorem CLF.p1 {z : NSt} {W : Nat → Nat → Nat} {q : Nat → Nat} {R : TRE} {id : Nat} {J : Nat → Bool} (h9 : CLF z W q R id J) : ∀ n, n ≤ 250 → z.2 6 n = q n := h9.2.1
theorem CLF.p2 {z : NSt} {W : Nat → Nat → Nat} {q : Nat → Nat} {R : TRE} {id : Nat} {J : Nat → Bool} (h9 : CLF z W q R id J) : ∀ n, 250 < n → z.2 6 n ≠ 0 → z.2 6 n = q n ∧ (NI W q R id n ∨ ∃ j, j ≤ 7 ∧ J j = true ∧ NB W q id j = n) := h9.2.2.1
theorem CLF.p3 {z : NSt} {W : Nat → Nat → Nat} {q : Nat → Nat} {R : TRE} {id : Nat} {J : Nat → Bool} (h9 : CLF z W q R id J) : ∀ n, 250 < n → (NI W q R id n ∨ ∃ j, j ≤ 7 ∧ J j = true ∧ NB W q id j = n) → z.2 6 n = q n := h9.2.2.2.1
theorem CLF.kk {z : NSt} {W : Nat → Nat → Nat} {q : Nat → Nat} {R : TRE} {id : Nat} {J : Nat → Bool} (h9 : CLF z W q R id J) : ∀ n, n < 2048 → z.2 7 n = q n := h9.2.2.2.2
/-- what claiming leaves alone -/
def FCL (z y : NSt) : Prop := y.1 = z.1 ∧ ∀ c, c ≠ 6 → c ≠ 9 → c ≠ 10 → c ≠ 11 → y.2 c = z.2 c
theorem FCL.rf (z : NSt) : FCL z z := ⟨rfl, fun _ _ _ _ _ => rfl⟩
theorem FCL.trans {x y z : NSt} (h : FCL x y) (g : FCL y z) : FCL x z := ⟨by rw [g.1, h.1], fun c a b d e => by rw [g.2 c a b d e, h.2 c a b d e]⟩
theorem RFI.nb {W : Nat → Nat → Nat} {q : Nat → Nat} {R : TRE} (hr : RFI W q R) {id : Nat} (hk : R.kd id = 1) {j i : Nat} (j1 : 1 ≤ j) (j7 : j ≤ 7) (hi : i < 56) : BPL W q id (20 + 56 * (j - 1) + i) = if NB W q id j = 0 then 0 else W (q (NB W q id j)) i := by
  obtain ⟨g1, g2, g3⟩ := hr.tok.rng id (by omega)
  have hp0 : q id ≠ 0 := fun w => by
    have := (hr.tok.ids id g1 g2).pl.mp w
    omega
  have k0 := ((hr.tok.ids id g1 g2).kd (by omega)).1
  rw [BPL_f hp0 g2 (by rw [k0, hk]; decide) (by omega)]
  unfold bpF
  rw [if_neg (by omega), show 1 + (20 + 56 * (j - 1) + i - 20) / 56 = j by omega, show (20 + 56 * (j - 1) + i - 20) % 56 = i by omega]
theorem takeNode {FU : Nat} (hF : 140000 < FU) {W : Nat → Nat → Nat} {q : Nat → Nat} {R : TRE} (hr : RFI W q R) {id : Nat} (hk : R.kd id = 1) {J : Nat → Bool} {z : NSt} (h : CLF z W q R id J) {j : Nat} (hj : j ≤ 7) (hJ : J j = false) {β : Type} (k : Int32 × St → Option β) (Q : β → Prop) (hq : ∀ y, CLF y W q R id (drU J j) → FCL z y → Ev (k (nI (if NB W q id j = 0 then 0 else q (NB W q id j)), up y)) Q) : Ev ((Tab_takeUp FU (nI (NB W q id j)) (up z)).bind fun p => (Chk_claimNode FU p.1 p.2).bind fun p' => k (p.1, p')) Q := by
  obtain ⟨g1, g2, g3⟩ := hr.tok.rng id (by omega)
  have hno := ((hr.tok.ids id g1 g2).fil hk).2.2
  obtain ⟨n, en⟩ : ∃ n, n = NB W q id j := ⟨_, rfl⟩
  rw [← en] at hq ⊢
  unfold Tab_takeUp
  by_cases c : n = 0
  · rw [c, if_pos (show nI 0 ≤ (250 : Int32) by decide), Option.bind_some]
    unfold Chk_claimNode
    show Ev ((if (0 : Int32) = 0 then some (up z) else _).bind _) Q
    rw [if_pos rfl, Option.bind_some]
    rw [if_pos c] at hq
    have ej : ∀ m, m ≠ 0 → ((∃ j', j' ≤ 7 ∧ drU J j j' = true ∧ NB W q id j' = m) ↔ ∃ j', j' ≤ 7 ∧ J j' = true ∧ NB W q id j' = m) := fun m hm => by
      refine ⟨fun ⟨j', a1, a2, a3⟩ => ⟨j', a1, ?_, a3⟩, fun ⟨j', a1, a2, a3⟩ => ⟨j', a1, ?_, a3⟩⟩
      · have hne : j' ≠ j := fun w => hm (by rw [← a3, w, ← en, c])
        rwa [drU_n J hne] at a2
      · have hne : j' ≠ j := fun w => hm (by rw [← a3, w, ← en, c])
        rwa [drU_n J hne]
    refine hq z ⟨h.cl.cong (fun m hm => ?_) (fun i k' hi0 => ?_), h.p1, fun m m1 m2 => ?_, fun m m1 m2 => ?_, h.kk⟩ (FCL.rf z)
    · constructor
      · rintro (d | d | ⟨j', a1, a2, a3, a4⟩)
        · exact Or.inl d
        · exact Or.inr (Or.inl d)
        · obtain ⟨j2, b1, b2, b3⟩ := (ej m a4).mpr ⟨j', a1, a2, a3⟩
          exact Or.inr (Or.inr ⟨j2, b1, b2, b3, a4⟩)
      · rintro (d | d | ⟨j', a1, a2, a3, a4⟩)
        · exact Or.inl d
        · exact Or.inr (Or.inl d)
        · obtain ⟨j2, b1, b2, b3⟩ := (ej m a4).mp ⟨j', a1, a2, a3⟩
          exact Or.inr (Or.inr ⟨j2, b1, b2, b3, a4⟩)
    · have hnd : i = id → ndK k' = j → 1 ≤ j → False := fun e1 e2 e3 => by
        have hrg := (nd_rng (k := k') (j := j) e3).mp e2
        have := hr.nb hk (j := j) (i := k' - (20 + 56 * (j - 1))) e3 hj (by omega)
        rw [show 20 + 56 * (j - 1) + (k' - (20 + 56 * (j - 1))) = k' by omega, ← en, if_pos c] at this
        rw [e1] at hi0
        exact hi0 this
      constructor
      · rintro (d | ⟨d1, d2 | d2⟩)
        · exact Or.inl d
        · exact Or.inr ⟨d1, Or.inl d2⟩
        · refine Or.inr ⟨d1, Or.inr ?_⟩
          by_cases e : ndK k' = j
          · rw [e, drU_s]
          · rw [drU_n J e]; exact d2
      · rintro (d | ⟨d1, d2 | d2⟩)
        · exact Or.inl d
        · exact Or.inr ⟨d1, Or.inl d2⟩
        · by_cases e : ndK k' = j
          · by_cases e1 : 1 ≤ j
            · exact (hnd d1 e e1).elim
            · exact Or.inr ⟨d1, Or.inl (by omega)⟩
          · rw [drU_n J e] at d2
            exact Or.inr ⟨d1, Or.inr d2⟩
    · obtain ⟨b1, b2⟩ := h.p2 m m1 m2
      exact ⟨b1, b2.elim Or.inl (fun w => Or.inr ((ej m (by omega)).mpr w))⟩
    · exact h.p3 m m1 (m2.elim Or.inl (fun w => Or.inr ((ej m (by omega)).mp w)))
  · have hrg := hno.rng j hj (by rw [← en]; exact c)
    rw [← en] at hrg
    have hkn := h.kk n hrg.2.1
    rw [show (250 : Int32) = nI 250 from rfl, if_neg (nI_ge hrg.1 (by omega)), show (2048 : Int32) = nI 2048 from rfl, if_pos (nI_lt hrg.2.1 (by decide)), rdA_z z 7 hrg.2.1 (by decide), Option.bind_some, hkn, wrA_z z 6 hrg.2.1 (by decide), Option.bind_some, rdA_z _ 6 hrg.2.1 (by decide), Option.bind_some, Option.bind_some]
    obtain ⟨z1, e1⟩ : ∃ z1, z1 = zA z 6 n (q n) := ⟨_, rfl⟩
    have z1a : ∀ c, c ≠ 6 → z1.2 c = z.2 c := fun c hc => by rw [e1, zA2, if_neg hc]
    have z16 : z1.2 6 = va_up (z.2 6) n (q n) := by rw [e1, zA2, if_pos rfl]
    have z11 : z1.1 = z.1 := by rw [e1]; rfl
    rw [← e1]
    have e2 : nI (z1.2 6 n) = nI (q n) := by rw [z16, va_up_self]
    show Ev ((Chk_claimNode FU (nI (z1.2 6 n)) (up z1)).bind fun p' => k (nI (z1.2 6 n), p')) Q
    rw [e2]
    have hcl1 : CLI z1 W q (fun n => NI W q R id n ∨ n = id ∨ ∃ j, j ≤ 7 ∧ J j = true ∧ NB W q id j = n ∧ n ≠ 0) (fun i k => i < id ∨ (i = id ∧ (ndK k = 0 ∨ J (ndK k) = true))) := by
      have hc := h.cl
      refine ⟨by rw [← hc.vw]; exact funext (zV_congr (z1a 4 (by decide))), by rw [z1a 4 (by decide)]; exact hc.w4, by rw [z1a 9 (by decide)]; exact hc.u1, by rw [z1a 9 (by decide)]; exact hc.u2, by rw [z1a 9 (by decide)]; exact hc.ub, ?_⟩
      unfold LGc
      rw [z1a 9 (by decide), z1a 10 (by decide), z1a 11 (by decide)]
      exact hc.uc
    have hnN : ¬ (NI W q R id n ∨ n = id ∨ ∃ j, j ≤ 7 ∧ J j = true ∧ NB W q id j = n ∧ n ≠ 0) := by
      rintro (w | w | ⟨j', a1, a2, a3, -⟩)
      · rcases w with w | ⟨i, j', b1, b2, b3, b4, -⟩
        · omega
        · obtain ⟨v1, v2, -⟩ := hr.tok.rng i (by omega)
          have hri := ((hr.tok.ids i v1 v2).fil b2).2.2.rng j' b3 (by rw [b4]; exact c)
          rw [b4, hrg.2.2.2.1] at hri
          have := hri.2.2.2.1
          omega
      · omega
      · have := hno.inj j' j a1 hj (by rw [a3]; exact c) (by rw [a3, en])
        rw [this, hJ] at a2
        exact absurd a2 (by decide)
    obtain ⟨base, eb⟩ : ∃ base, base = (if j = 0 then 0 else 20 + 56 * (j - 1)) := ⟨_, rfl⟩
    obtain ⟨hi, ehi⟩ : ∃ hi, hi = (if j = 0 then 0 else 56) := ⟨_, rfl⟩
    have h58 := hrg.2.2.2.2
    refine (claimNode_s hF hr (n := n) (id := id) (base := base) (fr := 0) (hi := hi) hrg.2.2.1 hnN (by rw [h58]; split <;> omega) ?_ ?_ (fun i a b => ?_) (fun k' a b => ?_) hcl1).bd ?_
    · rw [h58]; split <;> rfl
    · rw [h58, ehi]
      by_cases j0 : j = 0
      · rw [if_pos j0, if_pos j0]; rfl
      · rw [if_neg j0, if_neg j0]; rfl
    · have j0 : j ≠ 0 := fun w => by rw [ehi, if_pos w] at b; omega
      rw [ehi, if_neg j0] at b
      rw [eb, if_neg j0, Nat.sub_zero, hr.nb hk (by omega) hj b, ← en, if_neg c]
      by_cases w : W (q n) i = 0
      · rw [w]
      · have := hr.nb hk (j := j) (i := i) (by omega) hj b
        rw [← en, if_neg c] at this
        have := hr.dr id (20 + 56 * (j - 1) + i) (by rw [this]; exact w)
        omega
    · have j0 : j ≠ 0 := fun w => by rw [ehi, if_pos w] at b; omega
      rw [ehi, eb, if_neg j0, if_neg j0] at b
      rw [eb, if_neg j0] at a
      have hnd := (nd_rng (k := k') (j := j) (by omega)).mpr ⟨a, by omega⟩
      rintro (w | ⟨-, w | w⟩)
      · omega
      · omega
      · rw [hnd, hJ] at w
        exact absurd w (by decide)
    · rintro _ ⟨y, rfl, y1, y2, y3⟩
      rw [if_neg c] at hq
      have ej : ∀ m, (∃ j', j' ≤ 7 ∧ drU J j j' = true ∧ NB W q id j' = m) ↔ (∃ j', j' ≤ 7 ∧ J j' = true ∧ NB W q id j' = m) ∨ m = n := fun m => by
        constructor
        · rintro ⟨j', a1, a2, a3⟩
          by_cases e : j' = j
          · right; rw [← a3, e, en]
          · rw [drU_n J e] at a2
            exact Or.inl ⟨j', a1, a2, a3⟩
        · rintro (⟨j', a1, a2, a3⟩ | e)
          · refine ⟨j', a1, ?_, a3⟩
            by_cases e : j' = j
            · rw [e, drU_s]
            · rw [drU_n J e]; exact a2
          · exact ⟨j, hj, drU_s J j, by rw [e, en]⟩
      have y6 : y.2 6 = va_up (z.2 6) n (q n) := by rw [y3 6 (by decide) (by decide) (by decide), z16]
      refine hq y ⟨y1.cong (fun m hm => ?_) (fun i k' hi0 => ?_), fun m hm => ?_, fun m m1 m2 => ?_, fun m m1 m2 => ?_, fun m hm => ?_⟩ ⟨by rw [y2, z11], fun c c6 c9 c10 c11 => by rw [y3 c c9 c10 c11, z1a c c6]⟩
      · constructor
        · rintro ((d | d | ⟨j', a1, a2, a3, a4⟩) | d)
          · exact Or.inl d
          · exact Or.inr (Or.inl d)
          · obtain ⟨j2, b1, b2, b3⟩ := (ej m).mpr (Or.inl ⟨j', a1, a2, a3⟩)
            exact Or.inr (Or.inr ⟨j2, b1, b2, b3, a4⟩)
          · obtain ⟨j2, b1, b2, b3⟩ := (ej m).mpr (Or.inr d)
            exact Or.inr (Or.inr ⟨j2, b1, b2, b3, by omega⟩)
        · rintro (d | d | ⟨j', a1, a2, a3, a4⟩)
          · exact Or.inl (Or.inl d)
          · exact Or.inl (Or.inr (Or.inl d))
          · rcases (ej m).mp ⟨j', a1, a2, a3⟩ with ⟨j2, b1, b2, b3⟩ | d
            · exact Or.inl (Or.inr (Or.inr ⟨j2, b1, b2, b3, a4⟩))
            · exact Or.inr d
      · have hnd : 1 ≤ j → (ndK k' = j ↔ base ≤ k' ∧ k' < base + (hi - 0)) := fun e3 => by
          rw [eb, ehi, if_neg (by omega), if_neg (by omega)]
          exact nd_rng e3
        constructor
        · rintro ((d | ⟨d1, d2 | d2⟩) | ⟨d1, d2, d3⟩)
          · exact Or.inl d
          · exact Or.inr ⟨d1, Or.inl d2⟩
          · refine Or.inr ⟨d1, Or.inr ?_⟩
            by_cases e : ndK k' = j
            · rw [e, drU_s]
            · rw [drU_n J e]; exact d2
          · have j0 : j ≠ 0 := fun w => by rw [ehi, if_pos w] at d3; omega
            exact Or.inr ⟨d1, Or.inr (by rw [(hnd (by omega)).mpr ⟨d2, d3⟩, drU_s])⟩
        · rintro (d | ⟨d1, d2 | d2⟩)
          · exact Or.inl (Or.inl d)
          · exact Or.inl (Or.inr ⟨d1, Or.inl d2⟩)
          · by_cases e : ndK k' = j
            · by_cases j0 : j = 0
              · exact Or.inl (Or.inr ⟨d1, Or.inl (by omega)⟩)
              · obtain ⟨w1, w2⟩ := (hnd (by omega)).mp e
                exact Or.inr ⟨d1, w1, w2⟩
            · rw [drU_n J e] at d2
              exact Or.inl (Or.inr ⟨d1, Or.inr d2⟩)
      · rw [y6, va_up_ne _ _ (by omega)]; exact h.p1 m hm
      · rw [y6] at m2 ⊢
        by_cases e : m = n
        · rw [e, va_up_self]
          exact ⟨rfl, Or.inr ((ej n).mpr (Or.inr rfl))⟩
        · rw [va_up_ne _ _ e] at m2 ⊢
          obtain ⟨b1, b2⟩ := h.p2 m m1 m2
          exact ⟨b1, b2.elim Or.inl (fun w => Or.inr ((ej m).mpr (Or.inl w)))⟩
      · rw [y6]
        by_cases e : m = n
        · rw [e, va_up_self]
        · rw [va_up_ne _ _ e]
          refine h.p3 m m1 (m2.elim Or.inl (fun w => Or.inr ?_))
          rcases (ej m).mp w with v | v
          · exact v
          · exact absurd v e
      · rw [y3 7 (by decide) (by decide) (by decide), z1a 7 (by decide)]; exact h.kk m hm
