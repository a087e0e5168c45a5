/-! a commit: what mounting finds is what is so now -/
theorem dead_no {z : NSt} (h : LG z) {b : Nat} (hb : z.2 9 b ≠ 0) : ¬ (sg b < z.1 6 ∧ deadB z (sg b) = true) := by
  rintro ⟨-, q⟩
  have hp := h.cnt_pos hb
  unfold deadB at q
  simp only [Bool.and_eq_true, decide_eq_true_eq] at q
  split at hp <;> omega
theorem CM.keep {z y : NSt} (hl : LG z) (h : CM z y) {b : Nat} (hb : z.2 9 b ≠ 0) : y.2 5 b = z.2 5 b ∧ zV y b = zV z b := by
  have := h.2.2.2.2.1 b (hl.1.2.1 b hb).2.1 (dead_no hl hb)
  exact ⟨this.1, cutW_congr this.2⟩
theorem free_dead {z : NSt} (h : LG z) {s : Nat} (hs : z.2 12 s ≠ 0) : deadB z s = true := by
  obtain ⟨f1, f2, f3⟩ := h.1.2.2.2.1.1 s hs
  have hS := h.1.1.2.1
  have hc := h.1.2.2.1 s (by omega)
  have c1 := cnt_free h.1 hs 1 (by decide)
  have c2 := cnt_free h.1 hs 2 (by decide)
  obtain ⟨⟨e1, e2, e3, e4⟩, ⟨d1, d2, d3, d4⟩, -⟩ := h.2
  unfold deadB endB
  simp only [Bool.and_eq_true, decide_eq_true_eq, Bool.not_eq_true', decide_eq_false_iff_not]
  refine ⟨⟨by omega, by omega⟩, ?_⟩
  rintro (⟨-, -, q⟩ | ⟨-, -, q⟩)
  · rw [q] at hs; exact hs e3
  · rw [q] at hs; exact hs d3
/-- the kept places fit the places -/
def HK (z : NSt) : Prop := (∀ n, n ≤ 250 → (z.2 7 n = 0 ↔ z.2 6 n = 0)) ∧ ∀ n, 250 < n → n < 2048 → z.2 7 n = 0 → z.2 6 n = 0
theorem commit_nw {z y x : NSt} {T : TRE} (hw : LG z ∧ TR (z.2 6) (BPL (zV z) (z.2 6)) (z.2 9) ∧ NUM (zV z) (z.2 6) ∧ WD z) (ht : TOK (zV z) (z.2 6) T) (hld : LED (zV z) (z.2 6) T) (hold : zV z (pkB (z.1 11)) 0 ≤ z.1 11) (hsu : zV z 0 0 = z.1 6 ∧ zV z 0 1 ≤ zV z 0 0 ∧ z.1 16 = 16 * (zV z 0 0 - zV z 0 1)) (hl : LG y) (hc : CM z y) (h19 : z.1 19 < 2 ^ 32) (e1 : x.1 = y.1) (e2 : ∀ c, c ≠ 7 → c ≠ 8 → x.2 c = y.2 c) (w7 : ∀ i, x.2 7 i < 2 ^ 32) (w8 : ∀ i, x.2 8 i < 2 ^ 32) (hk : HK x) (hs31 : z.1 11 + 1 < 2 ^ 31) : NW x T T (z.1 19, fun _ => false) (z.2 6) [] := by
  obtain ⟨hlz, htr, hnu, hwd⟩ := hw
  obtain ⟨c1, c11, ca, c12, cb, cp, f, hf, hfp, hf22⟩ := _root_.id hc
  obtain ⟨f0, f1, f2, fb, fn, fl, -, f32⟩ := hf
  have hB := pkB_le (z.1 11 + 1)
  have hf9 : ∀ i, f i < 2 ^ 32 := f32 ⟨hwd 22 (by decide) (by decide), hwd 6 (by decide) (by decide), h19, by omega, by have := hlz.end8; omega⟩
  have hx6 : x.2 6 = z.2 6 := by rw [e2 6 (by decide) (by decide), ca 6 (by decide) (by decide) (by decide) (by decide)]
  have hx9 : x.2 9 = z.2 9 := by rw [e2 9 (by decide) (by decide), ca 9 (by decide) (by decide) (by decide) (by decide)]
  have hV : ∀ b, zV x b = zV y b := fun b => zV_congr (e2 4 (by decide) (by decide)) b
  have hVu : ∀ b, z.2 9 b ≠ 0 → zV x b = zV z b ∧ x.2 5 b = z.2 5 b := fun b q => by
    obtain ⟨k1, k2⟩ := hc.keep hlz q
    exact ⟨by rw [hV, k2], by rw [e2 5 (by decide) (by decide), k1]⟩
  have hP : ∀ n, z.2 6 n ≠ 0 → z.2 9 (z.2 6 n) = 1 := fun n q => (htr.2.1 _).mpr ⟨q, n, rfl⟩
  have hD : ∀ i k, BPL (zV z) (z.2 6) i k ≠ 0 → z.2 9 (BPL (zV z) (z.2 6) i k) = 2 := fun i k q => (htr.2.2.1 _).mpr ⟨q, i, k, rfl⟩
  have hz0 : z.2 6 0 = 0 := by
    refine Classical.byContradiction (fun q => ?_)
    have := (hnu 0 q).1
    omega
  obtain ⟨t1, t2⟩ := ht.keep (W' := zV x) hz0 (fun n q => (hVu _ (by rw [hP n q]; decide)).1) (fun i k q => (hVu _ (by rw [hD i k q]; decide)).1)
  have hlx : LG x := hl.frame (fun k _ _ => by rw [e1]) (fun a ha => e2 a (by omega) (by omega))
  have s6 : x.1 6 = z.1 6 := by rw [e1, c1 6 (by decide) (by decide)]
  have s8 : x.1 8 = z.1 8 := by rw [e1, c1 8 (by decide) (by decide)]
  have s11 : x.1 11 = z.1 11 + 1 := by rw [e1, c11]
  have s16 : x.1 16 = z.1 16 := by rw [e1, c1 16 (by decide) (by decide)]
  have hpk : ∀ i j, i < 34 → j < 64 → zV x (pkB (z.1 11 + 1) + i) j = f (64 * i + j) := fun i j hi hj => by rw [hV, zV_W hj, hfp i j hi hj]
  have hpk0 : ∀ j, j < 64 → zV x (pkB (z.1 11 + 1)) j = f j := fun j hj => by
    have := hpk 0 j (by decide) hj
    rwa [Nat.add_zero, Nat.mul_zero, Nat.zero_add] at this
  have hoth : ∀ b, b < 69 → ¬ (pkB (z.1 11 + 1) ≤ b ∧ b < pkB (z.1 11 + 1) + 34) → zV x b = zV z b := fun b q1 q2 => by
    rw [hV]
    exact cutW_congr (cp b q1 q2).2
  have hPar : pkB (z.1 11 + 1 + 1) = pkB (z.1 11) := by
    unfold pkB
    omega
  have hdis : ∀ i, i < 34 → ¬ (pkB (z.1 11 + 1) ≤ pkB (z.1 11) + i ∧ pkB (z.1 11) + i < pkB (z.1 11 + 1) + 34) := fun i hi => by
    unfold pkB
    omega
  have hB0 := pkB_le (z.1 11)
  have hrP : rP x (z.2 6) [] = z.2 6 := rfl
  have htrx : TR (x.2 6) (BPL (zV x) (x.2 6)) (x.2 9) := by
    have e : BPL (zV x) (x.2 6) = BPL (zV z) (z.2 6) := by
      funext i k
      rw [hx6]; exact t2 i k
    rw [e, hx6, hx9]; exact htr
  have hw1 : ∀ b, z.2 9 b ≠ 0 → z.2 5 b = 1 ∧ 69 ≤ b ∧ b < 69 + 16 * z.1 6 := fun b q => by
    have := hlz.1.2.1 b q
    exact ⟨this.2.2.2, this.2.1, this.2.2.1⟩
  have hnux : NUM (zV x) (x.2 6) := fun n q => by
    rw [hx6] at q ⊢
    rw [(hVu _ (by rw [hP n q]; decide)).1]
    exact hnu n q
  refine ⟨⟨hlx, htrx, hnux, fun a a1 a2 i => ?_, ⟨by omega, ?_, ?_, ?_, fun n n1 n2 => ?_, fun s q1 q2 => ?_, fun _ => ?_, ?_⟩, ⟨?_, fun b hb => by simp at hb, List.Pairwise.nil, fun b c hb => by simp at hb, fun b hb => by simp at hb, fun n q => ?_, fun n q => ?_, fun n n1 n2 q => ?_, fun n hn => ?_⟩, ⟨by rw [hrP]; exact t1, fun i k i' k' q e => ?_, fun i k q => ?_, fun i k q _ => ⟨k, ?_⟩, fun b q => ?_, fun b q i k w => ?_, fun b q => ?_, fun b q i k q0 => ?_⟩, fun _ => rfl⟩, by rw [hx6]; exact t1, fun n n1 n2 => ?_⟩
  · by_cases c7 : a = 7
    · rw [c7]; exact w7 i
    · by_cases c8 : a = 8
      · rw [c8]; exact w8 i
      · rw [e2 a c7 c8]
        by_cases c4 : a = 4
        · rw [c4]
          have h64 : zW y (i / 64) (i % 64) = y.2 4 i := by
            unfold zW
            exact congrArg (y.2 4) (by omega)
          rw [← h64]
          have hi : i % 64 < 64 := Nat.mod_lt _ (by decide)
          by_cases q : y.2 5 (i / 64) = 0
          · rw [hl.1.2.2.2.2.1.2 _ q _ hi]; decide
          · by_cases c69 : i / 64 < 69
            · by_cases cr : pkB (z.1 11 + 1) ≤ i / 64 ∧ i / 64 < pkB (z.1 11 + 1) + 34
              · have hlt := hfp (i / 64 - pkB (z.1 11 + 1)) (i % 64) (by omega) hi
                rw [show pkB (z.1 11 + 1) + (i / 64 - pkB (z.1 11 + 1)) = i / 64 by omega] at hlt
                rw [hlt]
                exact hf9 _
              · rw [(cp _ c69 cr).2 _ hi]
                exact hwd 4 (by decide) (by decide) _
            · by_cases cd : sg (i / 64) < z.1 6 ∧ deadB z (sg (i / 64)) = true
              · exfalso
                have := c12 (sg (i / 64))
                rw [if_pos cd] at this
                have hfr := (hl.1.2.2.2.1.1 (sg (i / 64)) (by omega)).2.2 ((i / 64 - 69) % 16) (Nat.mod_lt _ (by decide))
                rw [sg_dec (by omega)] at hfr
                exact q hfr
              · rw [(cb _ (by omega) cd).2 _ hi]
                exact hwd 4 (by decide) (by decide) _
        · by_cases c5 : a = 5
          · rw [c5]
            have := hl.1.2.2.2.2.1.1 i
            omega
          · by_cases c12' : a = 12
            · rw [c12']; exact hl.free1 i
            · by_cases c22 : a = 22
              · rw [c22, hf22]; exact hf9 i
              · rw [ca a c4 c5 c12' c22]; exact hwd a a1 a2 i
  · rw [s11, hpk0 0 (by decide), f0]
  · rw [s11, hpk 33 0 (by decide) (by decide)]; exact fl
  · rw [s11, hpk0 1 (by decide), f1]
  · rw [s11, Nat.add_assoc, hpk (1 + n / 64) (n % 64) (by omega) (Nat.mod_lt _ (by decide)), show 64 * (1 + n / 64) + n % 64 = 64 + n by omega, fn n n2]
  · rw [s6] at q1
    rw [s11, hpk0 _ (by have := hlz.1.1.2.1; omega), fb s q1]
    rw [e2 12 (by decide) (by decide), c12] at q2
    by_cases c : s < z.1 6 ∧ deadB z s = true
    · exact c.2
    · rw [if_neg c] at q2
      exact free_dead hlz q2
  · rw [s11, hPar, ← Nat.add_zero (pkB (z.1 11)), hoth _ (by omega) (hdis 0 (by decide)), Nat.add_zero]
    omega
  · rw [s6, s16, hoth 0 (by omega) (by omega)]
    exact hsu
  · show zV x (pkB (x.1 11)) 2 = x.1 8
    rw [s11, hpk0 2 (by decide), f2, s8]
  · obtain ⟨v1, v2, v3⟩ := hw1 _ (by rw [hP n q]; decide : z.2 9 (z.2 6 n) ≠ 0)
    obtain ⟨u1, u2⟩ := hVu _ (by rw [hP n q]; decide : z.2 9 (z.2 6 n) ≠ 0)
    obtain ⟨m1, m2, m3⟩ := hnu n q
    rw [u1, u2, s6]
    refine ⟨v1, v2, v3, m1, m2, m3, fun hn => ?_⟩
    have hi := ht.ids n m1 hn
    exact (hi.kd (fun w => q (hi.pl.mpr w))).2.2
  · rw [hx6]; rfl
  · exact ⟨by rw [← hx6]; exact hk.2 n n1 n2 q, fun b hb => by simp at hb⟩
  · rw [← hx6]; exact hk.1 n hn
  · rw [hrP, t2] at q e
    rw [t2] at e
    exact htr.2.2.2 i k i' k' q e
  · rw [hrP, t2] at q ⊢
    obtain ⟨v1, v2, v3⟩ := hw1 _ (by rw [hD i k q]; decide : z.2 9 (BPL (zV z) (z.2 6) i k) ≠ 0)
    rw [(hVu _ (by rw [hD i k q]; decide : z.2 9 (BPL (zV z) (z.2 6) i k) ≠ 0)).2, s6]
    exact ⟨v1, v2, v3⟩
  · rw [hrP, hx6]
  · rcases q with q | ⟨n, q1, q2⟩
    · simp at q
    · rw [hx9, (htr.2.1 b).mpr ⟨q2, n, q1⟩]
      decide
  · rcases q with q | ⟨n, q1, q2⟩
    · simp at q
    · rw [hrP, t2] at w
      have h1 := (htr.2.1 b).mpr ⟨q2, n, q1⟩
      have h2 := (htr.2.2.1 b).mpr ⟨q2, i, k, w⟩
      omega
  · rcases q with q | ⟨n, q1, q2⟩
    · simp at q
    · have h1 := (htr.2.1 b).mpr ⟨q2, n, q1⟩
      rw [← hx9] at h1
      exact ⟨hlx.p9 h1, fun d hd => hlx.pur h1 hd⟩
  · rw [hrP, t2] at q0 ⊢
    have h2 := hD i k q0
    rw [← hx9] at h2
    rcases q with q | q
    · rcases q with q | ⟨n, q1, q2⟩
      · simp at q
      · have h1 := (htr.2.1 b).mpr ⟨q2, n, q1⟩
        rw [← hx9] at h1
        exact hlx.pur h1 h2
    · rw [q]; exact hlx.p8 h2
  · rw [hx6] at n2
    obtain ⟨i, j, l1, l2, l3⟩ := hld n n1 n2
    obtain ⟨q1, q2, q3⟩ := ht.rng i (by omega)
    have hpi : z.2 6 i ≠ 0 := fun w' => by
      have := (ht.ids i q1 q2).pl.mp w'
      omega
    refine ⟨i, j, l1, l2, ?_⟩
    rw [hx6, (ht.same (W' := zV x) (fun n q => (hVu _ (by rw [hP n q]; decide)).1) q1 q2 hpi).nb (by rw [((ht.ids i q1 q2).kd (by omega)).1]; omega), l3]
