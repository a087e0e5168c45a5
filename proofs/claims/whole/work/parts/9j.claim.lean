/-! mounting claims what it finds -/
theorem LGc.up {z y : NSt} (h : LGc z) {b k : Nat} (hb : 69 ≤ b) (hu : z.2 9 b = 0) (hk : k = 1 ∨ k = 2) (e : y = clmZ b k z) : LGc y := by
  intro s hs
  obtain ⟨c1, c2⟩ := h s hs
  have u9 : y.2 9 = va_up (z.2 9) b k := by rw [e, clm_9]
  have f1 := cntF_up (u := z.2 9) (b := b) (v := k) hb 1 s
  have f2 := cntF_up (u := z.2 9) (b := b) (v := k) hb 2 s
  rw [hu] at f1 f2
  rw [if_neg (fun q => by have := q.2; omega)] at f1 f2
  rw [u9]
  rcases hk with rfl | rfl
  · rw [e, clm_10a, clm_11a]
    rw [if_neg (show ¬ (s = sg b ∧ (1 : Nat) = 2) from fun q => by have := q.2; omega)] at f2
    refine ⟨?_, by omega⟩
    unfold va_up at *
    by_cases c : s = sg b
    · rw [if_pos c, ← c]
      rw [if_pos ⟨c, rfl⟩] at f1
      omega
    · rw [if_neg c]
      rw [if_neg (fun q => c q.1)] at f1
      omega
  · rw [e, clm_10b, clm_11b]
    rw [if_neg (show ¬ (s = sg b ∧ (2 : Nat) = 1) from fun q => by have := q.2; omega)] at f1
    refine ⟨by omega, ?_⟩
    unfold va_up at *
    by_cases c : s = sg b
    · rw [if_pos c, ← c]
      rw [if_pos ⟨c, rfl⟩] at f2
      omega
    · rw [if_neg c]
      rw [if_neg (fun q => c q.1)] at f2
      omega
/-- what is claimed so far: nodes by number, blocks by id and place in the file -/
def CLI (z : NSt) (W : Nat → Nat → Nat) (q : Nat → Nat) (N : Nat → Prop) (D : Nat → Nat → Prop) : Prop := (zV z = W) ∧ (∀ i, z.2 4 i < 2 ^ 32) ∧ (∀ b, z.2 9 b = 1 ↔ b ≠ 0 ∧ ∃ n, N n ∧ q n = b) ∧ (∀ b, z.2 9 b = 2 ↔ b ≠ 0 ∧ ∃ i k, D i k ∧ BPL W q i k = b) ∧ (∀ b, z.2 9 b ≤ 2) ∧ (LGc z)
theorem CLI.vw {z : NSt} {W : Nat → Nat → Nat} {q : Nat → Nat} {N : Nat → Prop} {D : Nat → Nat → Prop} (h9 : CLI z W q N D) : zV z = W := h9.1
theorem CLI.w4 {z : NSt} {W : Nat → Nat → Nat} {q : Nat → Nat} {N : Nat → Prop} {D : Nat → Nat → Prop} (h9 : CLI z W q N D) : ∀ i, z.2 4 i < 2 ^ 32 := h9.2.1
theorem CLI.u1 {z : NSt} {W : Nat → Nat → Nat} {q : Nat → Nat} {N : Nat → Prop} {D : Nat → Nat → Prop} (h9 : CLI z W q N D) : ∀ b, z.2 9 b = 1 ↔ b ≠ 0 ∧ ∃ n, N n ∧ q n = b := h9.2.2.1
theorem CLI.u2 {z : NSt} {W : Nat → Nat → Nat} {q : Nat → Nat} {N : Nat → Prop} {D : Nat → Nat → Prop} (h9 : CLI z W q N D) : ∀ b, z.2 9 b = 2 ↔ b ≠ 0 ∧ ∃ i k, D i k ∧ BPL W q i k = b := h9.2.2.2.1
theorem CLI.ub {z : NSt} {W : Nat → Nat → Nat} {q : Nat → Nat} {N : Nat → Prop} {D : Nat → Nat → Prop} (h9 : CLI z W q N D) : ∀ b, z.2 9 b ≤ 2 := h9.2.2.2.2.1
theorem CLI.uc {z : NSt} {W : Nat → Nat → Nat} {q : Nat → Nat} {N : Nat → Prop} {D : Nat → Nat → Prop} (h9 : CLI z W q N D) : LGc z := h9.2.2.2.2.2
/-- what is read out of the device fits -/
def RFI (W : Nat → Nat → Nat) (q : Nat → Nat) (R : TRE) : Prop := (TOK W q R) ∧ (∀ n, q n ≠ 0 → 69 ≤ q n ∧ q n < 2117 ∧ 1 ≤ n ∧ n < 2048 ∧ W (q n) 60 = n) ∧ (∀ i k, BPL W q i k ≠ 0 → 69 ≤ BPL W q i k ∧ BPL W q i k < 2117) ∧ (∀ i k i' k', BPL W q i k ≠ 0 → BPL W q i k = BPL W q i' k' → i = i' ∧ k = k') ∧ (∀ n i k, q n ≠ 0 → BPL W q i k ≠ q n)
theorem RFI.tok {W : Nat → Nat → Nat} {q : Nat → Nat} {R : TRE} (h9 : RFI W q R) : TOK W q R := h9.1
theorem RFI.qr {W : Nat → Nat → Nat} {q : Nat → Nat} {R : TRE} (h9 : RFI W q R) : ∀ n, q n ≠ 0 → 69 ≤ q n ∧ q n < 2117 ∧ 1 ≤ n ∧ n < 2048 ∧ W (q n) 60 = n := h9.2.1
theorem RFI.dr {W : Nat → Nat → Nat} {q : Nat → Nat} {R : TRE} (h9 : RFI W q R) : ∀ i k, BPL W q i k ≠ 0 → 69 ≤ BPL W q i k ∧ BPL W q i k < 2117 := h9.2.2.1
theorem RFI.di {W : Nat → Nat → Nat} {q : Nat → Nat} {R : TRE} (h9 : RFI W q R) : ∀ i k i' k', BPL W q i k ≠ 0 → BPL W q i k = BPL W q i' k' → i = i' ∧ k = k' := h9.2.2.2.1
theorem RFI.nd {W : Nat → Nat → Nat} {q : Nat → Nat} {R : TRE} (h9 : RFI W q R) : ∀ n i k, q n ≠ 0 → BPL W q i k ≠ q n := h9.2.2.2.2
theorem CLI.dat {z : NSt} {W : Nat → Nat → Nat} {q : Nat → Nat} {R : TRE} {N : Nat → Prop} {D : Nat → Nat → Prop} (hr : RFI W q R) (h : CLI z W q N D) {i k : Nat} (h0 : BPL W q i k ≠ 0) (hn : ¬ D i k) : CLI (clmZ (BPL W q i k) 2 z) W q N (fun i' k' => D i' k' ∨ (i' = i ∧ k' = k)) := by
  obtain ⟨r1, r2⟩ := hr.dr i k h0
  have hu : z.2 9 (BPL W q i k) = 0 := by
    have := h.ub (BPL W q i k)
    refine Classical.byContradiction (fun w => ?_)
    by_cases c : z.2 9 (BPL W q i k) = 1
    · obtain ⟨-, n, -, e⟩ := (h.u1 _).mp c
      exact hr.nd n i k (by rw [e]; exact h0) e.symm
    · obtain ⟨-, i', k', d, e⟩ := (h.u2 _).mp (by omega : z.2 9 (BPL W q i k) = 2)
      obtain ⟨e1, e2⟩ := hr.di i k i' k' h0 e.symm
      rw [← e1, ← e2] at d
      exact hn d
  have e9 : (clmZ (BPL W q i k) 2 z).2 9 = va_up (z.2 9) (BPL W q i k) 2 := clm_9 _ _ _
  have e4 : (clmZ (BPL W q i k) 2 z).2 4 = z.2 4 := clm_2 _ _ _ (by decide) (by decide) (by decide)
  refine ⟨by rw [← h.vw]; exact funext (zV_congr e4), by rw [e4]; exact h.w4, fun b => ?_, fun b => ?_, fun b => ?_, h.uc.up r1 hu (Or.inr rfl) rfl⟩
  · rw [e9]
    by_cases c : b = BPL W q i k
    · rw [c, va_up_self]
      refine ⟨fun w => by omega, fun ⟨-, n, -, e⟩ => ?_⟩
      exact absurd e.symm (hr.nd n i k (by rw [e]; exact h0))
    · rw [va_up_ne _ _ c]; exact h.u1 b
  · rw [e9]
    by_cases c : b = BPL W q i k
    · rw [c, va_up_self]
      exact ⟨fun _ => ⟨h0, i, k, Or.inr ⟨rfl, rfl⟩, rfl⟩, fun _ => rfl⟩
    · rw [va_up_ne _ _ c, h.u2 b]
      refine ⟨fun ⟨v, i', k', d, e⟩ => ⟨v, i', k', Or.inl d, e⟩, fun ⟨v, i', k', d, e⟩ => ⟨v, i', k', ?_, e⟩⟩
      rcases d with d | ⟨rfl, rfl⟩
      · exact d
      · exact absurd e.symm c
  · rw [e9]
    unfold va_up
    split
    · exact Nat.le_refl _
    · exact h.ub b
theorem CLI.node {z : NSt} {W : Nat → Nat → Nat} {q : Nat → Nat} {R : TRE} {N : Nat → Prop} {D : Nat → Nat → Prop} (hr : RFI W q R) (h : CLI z W q N D) {n : Nat} (h0 : q n ≠ 0) (hn : ¬ N n) : CLI (clmZ (q n) 1 z) W q (fun m => N m ∨ m = n) D := by
  obtain ⟨r1, r2, r3, r4, r5⟩ := hr.qr n h0
  have hu : z.2 9 (q n) = 0 := by
    have := h.ub (q n)
    refine Classical.byContradiction (fun w => ?_)
    by_cases c : z.2 9 (q n) = 1
    · obtain ⟨-, m, d, e⟩ := (h.u1 _).mp c
      have em := (hr.qr m (by rw [e]; exact h0)).2.2.2.2
      rw [e, r5] at em
      rw [← em] at d
      exact hn d
    · obtain ⟨-, i', k', d, e⟩ := (h.u2 _).mp (by omega : z.2 9 (q n) = 2)
      exact hr.nd n i' k' h0 e
  have e9 : (clmZ (q n) 1 z).2 9 = va_up (z.2 9) (q n) 1 := clm_9 _ _ _
  have e4 : (clmZ (q n) 1 z).2 4 = z.2 4 := clm_2 _ _ _ (by decide) (by decide) (by decide)
  refine ⟨by rw [← h.vw]; exact funext (zV_congr e4), by rw [e4]; exact h.w4, fun b => ?_, fun b => ?_, fun b => ?_, h.uc.up r1 hu (Or.inl rfl) rfl⟩
  · rw [e9]
    by_cases c : b = q n
    · rw [c, va_up_self]
      exact ⟨fun _ => ⟨h0, n, Or.inr rfl, rfl⟩, fun _ => rfl⟩
    · rw [va_up_ne _ _ c, h.u1 b]
      refine ⟨fun ⟨v, m, d, e⟩ => ⟨v, m, Or.inl d, e⟩, fun ⟨v, m, d, e⟩ => ⟨v, m, ?_, e⟩⟩
      rcases d with d | rfl
      · exact d
      · exact absurd e.symm c
  · rw [e9]
    by_cases c : b = q n
    · rw [c, va_up_self]
      refine ⟨fun w => by omega, fun ⟨-, i', k', d, e⟩ => ?_⟩
      exact absurd e (hr.nd n i' k' h0)
    · rw [va_up_ne _ _ c]; exact h.u2 b
  · rw [e9]
    unfold va_up
    split
    · omega
    · exact h.ub b
theorem CLI.cong {z : NSt} {W : Nat → Nat → Nat} {q : Nat → Nat} {N N' : Nat → Prop} {D D' : Nat → Nat → Prop} (h : CLI z W q N D) (hN : ∀ n, q n ≠ 0 → (N n ↔ N' n)) (hD : ∀ i k, BPL W q i k ≠ 0 → (D i k ↔ D' i k)) : CLI z W q N' D' := by
  refine ⟨h.vw, h.w4, fun b => ?_, fun b => ?_, h.ub, h.uc⟩
  · rw [h.u1 b]
    refine ⟨fun ⟨v, n, d, e⟩ => ⟨v, n, (hN n (by rw [e]; exact v)).mp d, e⟩, fun ⟨v, n, d, e⟩ => ⟨v, n, (hN n (by rw [e]; exact v)).mpr d, e⟩⟩
  · rw [h.u2 b]
    refine ⟨fun ⟨v, i, k, d, e⟩ => ⟨v, i, k, (hD i k (by rw [e]; exact v)).mp d, e⟩, fun ⟨v, i, k, d, e⟩ => ⟨v, i, k, (hD i k (by rw [e]; exact v)).mpr d, e⟩⟩
theorem claim_out (FU : Nat) (z : NSt) {p : Nat} (hp : p < 69) : Log_claim FU (nI p) (2 : Int32) (up z) = some (up z) := by
  unfold Log_claim
  rw [segmentOf_out FU _ (by omega) (Or.inl hp), Option.bind_some, if_pos neg_lt0]
theorem claimNode_b (FU : Nat) {W : Nat → Nat → Nat} {q : Nat → Nat} {R : TRE} (hr : RFI W q R) {N : Nat → Prop} {D : Nat → Nat → Prop} {p id base fr hi : Nat} (hp : p < 2117) (hh : hi ≤ 64) (hb : ∀ i, fr ≤ i → i < hi → BPL W q id (base + (i - fr)) = W p i % 4096) (hn : ∀ k, base ≤ k → k < base + (hi - fr) → ¬ D id k) : ∀ (m i n : Nat) (z : NSt), i + m = hi → m < n → fr ≤ i → CLI z W q N (fun i' k' => D i' k' ∨ (i' = id ∧ base ≤ k' ∧ k' < base + (i - fr))) → Ev (Chk_claimNode_b50 FU n (nI p) (nI hi) (nI i) (up z)) fun r => ∃ y, r = up y ∧ CLI y W q N (fun i' k' => D i' k' ∨ (i' = id ∧ base ≤ k' ∧ k' < base + (hi - fr))) ∧ y.1 = z.1 ∧ ∀ c, c ≠ 9 → c ≠ 10 → c ≠ 11 → y.2 c = z.2 c := by
  intro m
  induction m with
  | zero =>
    intro i n z e1 e2 e3 h
    obtain ⟨n, rfl⟩ : ∃ q9, n = q9 + 1 := ⟨n - 1, by omega⟩
    have e1 : i = hi := e1
    subst e1
    unfold Chk_claimNode_b50
    rw [if_pos (nI_le (Nat.le_refl _) (by omega))]
    exact Ev.ret ⟨z, rfl, h, rfl, fun _ _ _ _ => rfl⟩
  | succ m ih =>
    intro i n z e1 e2 e3 h
    obtain ⟨n, rfl⟩ : ∃ q9, n = q9 + 1 := ⟨n - 1, by omega⟩
    have h32 : zV z p i < 2 ^ 32 := zV_lt h.w4 p i
    have hbi := hb i e3 (by omega)
    unfold Chk_claimNode_b50
    rw [if_neg (nI_ge (by omega) (by omega)), Dev_word_e FU z hp (by omega), Option.bind_some, ← zV_W (by omega), and4095 h32, h.vw, ← hbi, nI_1]
    by_cases c : BPL W q id (base + (i - fr)) = 0
    · rw [c, claim_out FU z (by decide), Option.bind_some]
      refine ih (i + 1) n z (by omega) (by omega) (by omega) (h.cong (fun _ _ => Iff.rfl) (fun i' k' q0 => ?_))
      constructor
      · rintro (d | ⟨d1, d2, d3⟩)
        · exact Or.inl d
        · exact Or.inr ⟨d1, d2, by omega⟩
      · rintro (d | ⟨d1, d2, d3⟩)
        · exact Or.inl d
        · by_cases e : k' = base + (i - fr)
          · rw [d1, e, c] at q0; exact absurd rfl q0
          · exact Or.inr ⟨d1, d2, by omega⟩
    · obtain ⟨r1, r2⟩ := hr.dr _ _ c
      rw [show (2 : Int32) = nI 2 from rfl, Log_claim_z FU z r1 r2 (Or.inr rfl), Option.bind_some]
      have hnew := CLI.dat hr h c (fun w => by
        rcases w with w | ⟨-, -, w⟩
        · exact hn _ (by omega) (by omega) w
        · omega)
      refine (ih (i + 1) n _ (by omega) (by omega) (by omega) (hnew.cong (fun _ _ => Iff.rfl) (fun i' k' _ => ?_))).mono ?_
      · constructor
        · rintro ((d | ⟨d1, d2, d3⟩) | ⟨d1, d2⟩)
          · exact Or.inl d
          · exact Or.inr ⟨d1, d2, by omega⟩
          · exact Or.inr ⟨d1, by omega, by omega⟩
        · rintro (d | ⟨d1, d2, d3⟩)
          · exact Or.inl (Or.inl d)
          · by_cases e : k' = base + (i - fr)
            · exact Or.inr ⟨d1, e⟩
            · exact Or.inl (Or.inr ⟨d1, d2, by omega⟩)
      · rintro r ⟨y, rfl, y1, y2, y3⟩
        exact ⟨y, rfl, y1, by rw [y2, clm_1], fun c c9 c10 c11 => by rw [y3 c c9 c10 c11, clm_2 _ _ _ c9 c10 c11]⟩
