/-! what holds of the log at any time -/
def cntF (u : Nat → Nat) (k s : Nat) : Nat := sm (fun j => if u (69 + 16 * s + j) = k then 1 else 0) 16
theorem cntF_up {u : Nat → Nat} {b v : Nat} (h1 : 69 ≤ b) (k s : Nat) : cntF (va_up u b v) k s + (if s = sg b ∧ u b = k then 1 else 0) = cntF u k s + (if s = sg b ∧ v = k then 1 else 0) := by
  unfold cntF
  by_cases hs : s = sg b
  · have hb : b = 69 + 16 * s + (b - 69) % 16 := by
      unfold sg at hs
      omega
    have e : (fun j => if va_up u b v (69 + 16 * s + j) = k then 1 else 0) = va_up (fun j => if u (69 + 16 * s + j) = k then 1 else 0) ((b - 69) % 16) (if v = k then 1 else 0) := by
      funext j
      show (if (if 69 + 16 * s + j = b then v else u (69 + 16 * s + j)) = k then 1 else 0) = if j = (b - 69) % 16 then (if v = k then 1 else 0) else (if u (69 + 16 * s + j) = k then 1 else 0)
      by_cases hj : j = (b - 69) % 16
      · have q : 69 + 16 * s + j = b := by omega
        rw [if_pos hj, if_pos q]
      · have q : ¬ 69 + 16 * s + j = b := by omega
        rw [if_neg hj, if_neg q]
    rw [e]
    have h := sm_up (f := fun j => if u (69 + 16 * s + j) = k then 1 else 0) (i := (b - 69) % 16) (v := if v = k then 1 else 0) (n := 16) (Nat.mod_lt _ (by decide))
    have h2 : (if u (69 + 16 * s + (b - 69) % 16) = k then 1 else 0) = (if s = sg b ∧ u b = k then 1 else 0) := by
      rw [← hb]
      by_cases q : u b = k
      · rw [if_pos q, if_pos ⟨hs, q⟩]
      · rw [if_neg q, if_neg (fun z => q z.2)]
    have h3 : (if v = k then 1 else 0) = (if s = sg b ∧ v = k then 1 else 0) := by
      by_cases q : v = k
      · rw [if_pos q, if_pos ⟨hs, q⟩]
      · rw [if_neg q, if_neg (fun z => q z.2)]
    rw [← h2, ← h3]
    exact h
  · rw [if_neg (fun q => hs q.1), if_neg (fun q => hs q.1)]
    have e : sm (fun j => if va_up u b v (69 + 16 * s + j) = k then 1 else 0) 16 = sm (fun j => if u (69 + 16 * s + j) = k then 1 else 0) 16 := sm_congr (fun j hj => by
      rw [va_up_ne]
      unfold sg at hs
      omega)
    rw [e]
def LGs (z : NSt) : Prop := 48 ≤ z.1 6 ∧ z.1 6 ≤ 128 ∧ z.1 10 < z.1 6
def LGu (z : NSt) : Prop := ∀ b, z.2 9 b ≠ 0 → (z.2 9 b = 1 ∨ z.2 9 b = 2) ∧ 69 ≤ b ∧ b < 69 + 16 * z.1 6 ∧ z.2 5 b = 1
def LGc (z : NSt) : Prop := ∀ s, s < 128 → z.2 10 s = cntF (z.2 9) 1 s ∧ z.2 11 s = cntF (z.2 9) 2 s
def LGf (z : NSt) : Prop := (∀ s, z.2 12 s ≠ 0 → z.2 12 s = 1 ∧ s < z.1 6 ∧ ∀ j, j < 16 → z.2 5 (69 + 16 * s + j) = 0) ∧ z.1 7 = sm (z.2 12) 128
/-- an end: in a segment that is not free, nothing written from it on -/
def isE (z : NSt) (d : Nat) : Prop := 69 ≤ d ∧ d < 69 + 16 * z.1 6 ∧ z.2 12 (sg d) = 0 ∧ ∀ b, d ≤ b → sg b = sg d → z.2 5 b = 0
def LGe (z : NSt) : Prop := isE z (z.1 8) ∧ isE z (z.1 9) ∧ sg (z.1 8) ≠ sg (z.1 9) ∧ z.2 11 (sg (z.1 8)) = 0 ∧ z.2 10 (sg (z.1 9)) = 0
def LGw (z : NSt) : Prop := (∀ b, z.2 5 b ≤ 1) ∧ ∀ b, z.2 5 b = 0 → ∀ i, i < 64 → zW z b i = 0
def LGp (z : NSt) : Prop := (∀ s, s < 128 → z.2 10 s = 0 ∨ z.2 11 s = 0) ∧ z.1 5 = 0
/-- the log without its ends -/
def LG0 (z : NSt) : Prop := LGs z ∧ LGu z ∧ LGc z ∧ LGf z ∧ LGw z ∧ LGp z
def LG (z : NSt) : Prop := LG0 z ∧ LGe z
/-- blocks that can still be written -/
def Uz (z : NSt) : Nat := 16 * z.1 7 + (16 - (z.1 8 - 69) % 16) + (16 - (z.1 9 - 69) % 16)
theorem LG.use2 {z : NSt} (h : LG z) (b : Nat) : z.2 9 b ≤ 2 := by
  by_cases q : z.2 9 b = 0
  · omega
  · have := (h.1.2.1 b q).1
    omega
theorem LG.free1 {z : NSt} (h : LG z) (s : Nat) : z.2 12 s < 2 ^ 32 := by
  by_cases q : z.2 12 s = 0
  · omega
  · have := (h.1.2.2.2.1.1 s q).1
    omega
theorem LG.freeEx {z : NSt} (h : LG z) (h7 : 1 ≤ z.1 7) : ∃ s, s < z.1 6 ∧ z.2 12 s ≠ 0 := by
  have e := h.1.2.2.2.1.2
  obtain ⟨i, h1, h2⟩ := sm_ex (f := z.2 12) (n := 128) (by omega)
  exact ⟨i, (h.1.2.2.2.1.1 i h2).2.1, h2⟩
theorem LG.cnt_pos {z : NSt} (h : LG z) {p : Nat} (hp : z.2 9 p ≠ 0) : 1 ≤ z.2 (if z.2 9 p = 1 then 10 else 11) (sg p) := by
  obtain ⟨h1, h2, h3, h4⟩ := h.1.2.1 p hp
  have hS := h.1.1
  have hs : sg p < 128 := by
    unfold sg
    have := hS.2.1
    omega
  have hc := h.1.2.2.1 (sg p) hs
  have hk : ∀ k, z.2 9 p = k → 1 ≤ cntF (z.2 9) k (sg p) := by
    intro k hk
    unfold cntF
    have e : 69 + 16 * sg p + (p - 69) % 16 = p := by
      unfold sg
      omega
    have := sm_one (f := fun j => if z.2 9 (69 + 16 * sg p + j) = k then 1 else 0) (i := (p - 69) % 16) (n := 16) (Nat.mod_lt _ (by decide))
    simp only [e, hk, if_true] at this
    exact this
  rcases h1 with q | q
  · rw [if_pos q, hc.1]
    exact hk 1 q
  · rw [if_neg (by omega), hc.2]
    exact hk 2 q
theorem LG.unused {z : NSt} (h : LG z) {b : Nat} (hb : z.2 5 b = 0) : z.2 9 b = 0 := by
  by_cases q : z.2 9 b = 0
  · exact q
  · have := (h.1.2.1 b q).2.2.2
    omega
theorem sg_of {s j : Nat} (hj : j < 16) : sg (69 + 16 * s + j) = s := by
  unfold sg
  omega
theorem sg_dec {b : Nat} (h : 69 ≤ b) : 69 + 16 * sg b + (b - 69) % 16 = b := by
  unfold sg
  omega
theorem sg_lt' {z : NSt} {b : Nat} (h1 : 69 ≤ b) (h2 : b < 69 + 16 * z.1 6) : sg b < z.1 6 := by
  unfold sg
  omega
/-- a segment is opened for an end d that was at its last block -/
theorem opn_LG {z : NSt} (h : LG0 z) {s : Nat} (hs : z.2 12 s ≠ 0) : LG0 (opnZ s z) := by
  obtain ⟨⟨a1, a2, a3⟩, hu, hc, ⟨hf1, hf2⟩, hw, hp⟩ := h
  obtain ⟨f1, f2, f3⟩ := hf1 s hs
  refine ⟨⟨a1, a2, f2⟩, hu, hc, ⟨fun t ht => ?_, ?_⟩, hw, hp⟩
  · by_cases e : t = s
    · subst e
      exact absurd (va_up_self (z.2 12) t 0) ht
    · have ht : va_up (z.2 12) s 0 t ≠ 0 := ht
      rw [va_up_ne _ _ e] at ht
      show va_up (z.2 12) s 0 t = 1 ∧ _
      rw [va_up_ne _ _ e]
      exact hf1 t ht
  · show z.1 7 - 1 = sm (va_up (z.2 12) s 0) 128
    have := sm_up (f := z.2 12) (i := s) (v := 0) (n := 128) (by omega)
    omega
/-- where an end went -/
def NXE (E : Nat) (z y : NSt) : Prop := (y.1 E = z.1 E + 1 ∧ (z.1 E - 69) % 16 ≠ 15 ∧ y.2 12 = z.2 12) ∨ ((z.1 E - 69) % 16 = 15 ∧ ∃ s, z.2 12 s ≠ 0 ∧ y.1 E = 69 + 16 * s ∧ y.2 12 = va_up (z.2 12) s 0)
/-- what putData leaves -/
def PD (z : NSt) (a : Nat) (y : NSt) : Prop :=
  y.2 4 = va_cpy (z.2 a) (z.2 4) 0 (64 * z.1 9) 64 ∧ y.2 5 = va_up (z.2 5) (z.1 9) 1 ∧ y.2 9 = va_up (z.2 9) (z.1 9) 2 ∧
  (∀ b, b ≠ 4 → b ≠ 5 → b ≠ 9 → b ≠ 11 → b ≠ 12 → y.2 b = z.2 b) ∧ (∀ k, k ≠ 7 → k ≠ 9 → k ≠ 10 → y.1 k = z.1 k) ∧ Uz y + 1 = Uz z ∧ z.2 5 (z.1 9) = 0 ∧ z.2 9 (z.1 9) = 0 ∧ 69 ≤ z.1 9 ∧ z.1 9 < 69 + 16 * z.1 6 ∧ (∀ s, y.2 12 s ≠ 0 → z.2 12 s ≠ 0) ∧ (sg (y.1 9) = sg (z.1 9) ∨ z.2 12 (sg (y.1 9)) ≠ 0) ∧ NXE 9 z y
theorem cnt_free {z : NSt} (h : LG0 z) {s : Nat} (hs : z.2 12 s ≠ 0) (k : Nat) (hk : k ≠ 0) : cntF (z.2 9) k s = 0 := by
  obtain ⟨-, hu, -, ⟨hf1, -⟩, -, -⟩ := h
  unfold cntF
  refine sm_zero (fun j hj => ?_)
  have := (hf1 s hs).2.2 j hj
  by_cases q : z.2 9 (69 + 16 * s + j) = 0
  · rw [if_neg (by omega)]
  · have := (hu _ q).2.2.2
    omega
theorem write_LG {z y Y : NSt} {d e k E O A B : Nat} (hk : (k = 1 ∧ E = 8 ∧ O = 9 ∧ A = 10 ∧ B = 11) ∨ (k = 2 ∧ E = 9 ∧ O = 8 ∧ A = 11 ∧ B = 10)) (h : LG z) (hd : d = z.1 E) (hn : nxtE z d e y)
    (y1 : ∀ j, Y.1 j = if j = E then e else y.1 j) (y5 : Y.2 5 = va_up (z.2 5) d 1) (y9 : Y.2 9 = va_up (z.2 9) d k) (y12 : Y.2 12 = y.2 12) (yA : Y.2 A = va_up (z.2 A) (sg d) (z.2 A (sg d) + 1)) (yB : Y.2 B = z.2 B) (yW : ∀ b, b ≠ d → ∀ i, i < 64 → zW Y b i = zW z b i) : LG Y ∧ Uz Y + 1 = Uz z := by
  obtain ⟨⟨⟨a1, a2, a3⟩, hu, hc, ⟨hf1, hf2⟩, ⟨hw1, hw2⟩, ⟨hp1, hp2⟩⟩, ⟨e1, e2, e3, e4, e5⟩⟩ := id h
  have hk0 : k ≠ 0 := by omega
  have hEd : isE z d := by rcases hk with ⟨-, rfl, -⟩ | ⟨-, rfl, -⟩ <;> rw [hd] <;> assumption
  have hEo : isE z (z.1 O) := by rcases hk with ⟨-, -, rfl, -⟩ | ⟨-, -, rfl, -⟩ <;> assumption
  have hne : sg d ≠ sg (z.1 O) := by
    rcases hk with ⟨-, rfl, rfl, -⟩ | ⟨-, rfl, rfl, -⟩
    · rw [hd]; exact e3
    · rw [hd]; exact Ne.symm e3
  have hB : z.2 B (sg d) = 0 := by
    rcases hk with ⟨-, rfl, -, -, rfl⟩ | ⟨-, rfl, -, -, rfl⟩ <;> rw [hd] <;> assumption
  have hA : z.2 A (sg (z.1 O)) = 0 := by
    rcases hk with ⟨-, -, rfl, rfl, -⟩ | ⟨-, -, rfl, rfl, -⟩ <;> assumption
  obtain ⟨d1, d2, d3, d4⟩ := hEd
  obtain ⟨o1, o2, o3, o4⟩ := hEo
  have hsd : sg d < 128 := by
    have := sg_lt' (z := z) d1 d2
    omega
  have hdw : z.2 5 d = 0 := d4 d (Nat.le_refl _) rfl
  have hdu : z.2 9 d = 0 := h.unused hdw
  have Y6 : Y.1 6 = z.1 6 := by
    rw [y1, if_neg (by omega)]
    rcases hn with ⟨-, -, rfl⟩ | ⟨-, s, -, -, -, rfl⟩ <;> rfl
  have Y5' : Y.1 5 = z.1 5 := by
    rw [y1, if_neg (by omega)]
    rcases hn with ⟨-, -, rfl⟩ | ⟨-, s, -, -, -, rfl⟩ <;> rfl
  have YO : Y.1 O = z.1 O := by
    rw [y1, if_neg (by omega)]
    rcases hn with ⟨-, -, rfl⟩ | ⟨-, s, -, -, -, rfl⟩
    · rfl
    · rw [opn_1, if_neg (by omega), if_neg (by omega)]
  have YE : Y.1 E = e := by rw [y1, if_pos rfl]
  have Y10 : Y.1 10 < Y.1 6 := by
    rw [Y6, y1, if_neg (by omega)]
    rcases hn with ⟨-, -, rfl⟩ | ⟨-, s, hs, -, -, rfl⟩
    · exact a3
    · rw [opn_1, if_pos rfl]; exact hs
  have w_ne : ∀ b, b ≠ d → Y.2 5 b = z.2 5 b := fun b hb => by rw [y5]; exact va_up_ne _ _ hb
  have u_ne : ∀ b, b ≠ d → Y.2 9 b = z.2 9 b := fun b hb => by rw [y9]; exact va_up_ne _ _ hb
  have fr : (∀ s, Y.2 12 s ≠ 0 → z.2 12 s ≠ 0) ∧ Y.1 7 = sm (Y.2 12) 128 ∧ (∀ s, z.2 12 s = 0 → Y.2 12 s = 0) ∧ (∀ s, Y.2 12 s ≠ 0 → Y.2 12 s = z.2 12 s) := by
    rw [y12, y1, if_neg (by omega)]
    rcases hn with ⟨-, -, rfl⟩ | ⟨-, s, hs, hs2, -, rfl⟩
    · exact ⟨fun _ h => h, hf2, fun _ h => h, fun _ _ => rfl⟩
    · have g := (opn_LG h.1 hs2).2.2.2.1.2
      rw [opn_12] at g ⊢
      refine ⟨fun t ht => ?_, g, fun t ht => ?_, fun t ht => ?_⟩
      · by_cases q : t = s
        · rw [q, va_up_self] at ht; exact absurd rfl ht
        · rwa [va_up_ne _ _ q] at ht
      · by_cases q : t = s
        · rw [q, va_up_self]
        · rwa [va_up_ne _ _ q]
      · by_cases q : t = s
        · rw [q, va_up_self] at ht; exact absurd rfl ht
        · rw [va_up_ne _ _ q]
  have hfree_sg : ∀ s, z.2 12 s ≠ 0 → s ≠ sg d ∧ s ≠ sg (z.1 O) := fun s hs => ⟨fun q => hs (by rw [q]; exact d3), fun q => hs (by rw [q]; exact o3)⟩
  -- the new end
  have hnew : isE Y e ∧ sg e ≠ sg (z.1 O) ∧ z.2 B (sg e) = 0 ∧ Uz Y + 1 = Uz z := by
    have hU : Uz z = 16 * z.1 7 + (16 - (d - 69) % 16) + (16 - (z.1 O - 69) % 16) := by
      unfold Uz
      rcases hk with ⟨-, rfl, rfl, -⟩ | ⟨-, rfl, rfl, -⟩ <;> rw [hd] <;> omega
    have hUY : Uz Y = 16 * Y.1 7 + (16 - (e - 69) % 16) + (16 - (z.1 O - 69) % 16) := by
      unfold Uz
      rw [← YE, ← YO]
      rcases hk with ⟨-, rfl, rfl, -⟩ | ⟨-, rfl, rfl, -⟩ <;> omega
    rcases hn with ⟨n1, n2, n3⟩ | ⟨n1, s, n2, n3, n4, n5⟩
    · have hsg : sg e = sg d := by
        unfold sg
        omega
      have hY7 : Y.1 7 = z.1 7 := by rw [y1, if_neg (by omega), n3]
      refine ⟨⟨by omega, ?_, ?_, fun b hb hb2 => ?_⟩, by rw [hsg]; exact hne, by rw [hsg]; exact hB, ?_⟩
      · rw [Y6]
        have := sg_dec d1
        have := sg_lt' (z := z) d1 d2
        omega
      · rw [hsg]; exact fr.2.2.1 _ d3
      · rw [w_ne b (by omega)]
        exact d4 b (by omega) (by rw [hb2, hsg])
      · rw [hU, hUY, hY7]
        omega
    · have hsg : sg e = s := by
        rw [n4]
        unfold sg
        omega
      have hf := hf1 s n3
      have hY7 : Y.1 7 = z.1 7 - 1 := by rw [y1, if_neg (by omega), n5]; rfl
      have h71 : 1 ≤ z.1 7 := by
        rw [hf2]
        have := sm_one (f := z.2 12) (i := s) (n := 128) (by omega)
        omega
      refine ⟨⟨by omega, by rw [Y6]; omega, ?_, fun b hb hb2 => ?_⟩, by rw [hsg]; exact (hfree_sg s n3).2, ?_, ?_⟩
      · rw [hsg, y12, n5, opn_12, va_up_self]
      · have hb3 : sg b = s := by rw [hb2, hsg]
        have hbd := sg_dec (b := b) (by omega)
        rw [w_ne b (fun q => (hfree_sg s n3).1 (by rw [← hb3, q]))]
        rw [← hbd, hb3]
        exact hf.2.2 _ (Nat.mod_lt _ (by decide))
      · rw [hsg]
        have hc' := hc s (by omega)
        rcases hk with ⟨-, -, -, -, rfl⟩ | ⟨-, -, -, -, rfl⟩
        · rw [hc'.2]; exact cnt_free h.1 n3 2 (by decide)
        · rw [hc'.1]; exact cnt_free h.1 n3 1 (by decide)
      · rw [hU, hUY, hY7]
        omega
  obtain ⟨hnewE, hnewS, hnewB, hnewU⟩ := hnew
  have hoY : isE Y (z.1 O) := ⟨o1, by rw [Y6]; exact o2, fr.2.2.1 _ o3, fun b hb hb2 => by
    rw [w_ne b (fun q => hne (by rw [← hb2, q]))]
    exact o4 b hb hb2⟩
  refine ⟨⟨⟨⟨by rw [Y6]; exact a1, by rw [Y6]; exact a2, Y10⟩, fun b hb => ?_, fun s hs => ?_, ⟨fun s hs => ?_, fr.2.1⟩, ⟨fun b => ?_, fun b hb i hi => ?_⟩, ⟨fun s hs => ?_, by rw [Y5']; exact hp2⟩⟩, ?_⟩, hnewU⟩
  · by_cases q : b = d
    · subst q
      rw [y9, va_up_self, y5, va_up_self, Y6]
      exact ⟨by omega, d1, d2, rfl⟩
    · rw [u_ne b q] at hb ⊢
      rw [w_ne b q, Y6]
      exact hu b hb
  · have c1 := cntF_up (u := z.2 9) (b := d) (v := k) d1 1 s
    have c2 := cntF_up (u := z.2 9) (b := d) (v := k) d1 2 s
    have hcs := hc s hs
    rw [if_neg (by omega)] at c1 c2
    have hAs : Y.2 A s = z.2 A s + (if s = sg d then 1 else 0) := by
      rw [yA]
      unfold va_up
      split
      · rename_i q; rw [q]
      · rfl
    rw [y9]
    rcases hk with ⟨rfl, -, -, rfl, rfl⟩ | ⟨rfl, -, -, rfl, rfl⟩
    · rw [hAs, yB]
      by_cases q : s = sg d
      · rw [if_pos ⟨q, rfl⟩] at c1
        rw [if_neg (by omega)] at c2
        rw [if_pos q]
        omega
      · rw [if_neg (fun w => q w.1)] at c1 c2
        rw [if_neg q]
        omega
    · rw [hAs, yB]
      by_cases q : s = sg d
      · rw [if_pos ⟨q, rfl⟩] at c2
        rw [if_neg (by omega)] at c1
        rw [if_pos q]
        omega
      · rw [if_neg (fun w => q w.1)] at c1 c2
        rw [if_neg q]
        omega
  · have hz := fr.1 s hs
    obtain ⟨g1, g2, g3⟩ := hf1 s hz
    refine ⟨by rw [fr.2.2.2 s hs]; exact g1, by rw [Y6]; exact g2, fun j hj => ?_⟩
    rw [w_ne _ (fun q => (hfree_sg s hz).1 (by rw [← q, sg_of hj]))]
    exact g3 j hj
  · by_cases q : b = d
    · rw [q, y5, va_up_self]
      exact Nat.le_refl _
    · rw [w_ne b q]; exact hw1 b
  · have q : b ≠ d := fun q => by
      rw [q, y5, va_up_self] at hb
      omega
    rw [yW b q i hi]
    exact hw2 b (by rw [← w_ne b q]; exact hb) i hi
  · have hAs : Y.2 A s = z.2 A s + (if s = sg d then 1 else 0) := by
      rw [yA]
      unfold va_up
      split
      · rename_i q; rw [q]
      · rfl
    have hps := hp1 s hs
    by_cases q : s = sg d
    · rcases hk with ⟨-, -, -, rfl, rfl⟩ | ⟨-, -, -, rfl, rfl⟩
      · exact Or.inr (by rw [yB, q]; exact hB)
      · exact Or.inl (by rw [yB, q]; exact hB)
    · rw [if_neg q] at hAs
      rcases hk with ⟨-, -, -, rfl, rfl⟩ | ⟨-, -, -, rfl, rfl⟩ <;> rw [yB, hAs] <;> exact hps
  · have hAo : Y.2 A (sg (z.1 O)) = 0 := by
      rw [yA, va_up_ne _ _ (Ne.symm hne)]
      exact hA
    have hBe : Y.2 B (sg e) = 0 := by rw [yB]; exact hnewB
    rcases hk with ⟨-, rfl, rfl, rfl, rfl⟩ | ⟨-, rfl, rfl, rfl, rfl⟩
    · rw [← YE] at hnewE hnewS hBe
      rw [← YO] at hoY hnewS hAo
      exact ⟨hnewE, hoY, hnewS, hBe, hAo⟩
    · rw [← YE] at hnewE hnewS hBe
      rw [← YO] at hoY hnewS hAo
      exact ⟨hoY, hnewE, Ne.symm hnewS, hAo, hBe⟩
theorem drop_LG {z : NSt} (h : LG z) (p : Nat) : LG (drpZ p z) ∧ Uz (drpZ p z) = Uz z := by
  unfold drpZ
  by_cases hp : 69 ≤ p ∧ p < 2117 ∧ z.2 9 p ≠ 0
  · rw [if_pos hp]
    have hpos := h.cnt_pos hp.2.2
    obtain ⟨⟨ha, hu, hc, hf, hw, ⟨hp1, hp2⟩⟩, ⟨e1, e2, e3, e4, e5⟩⟩ := id h
    obtain ⟨u1, u2, u3, u4⟩ := hu p hp.2.2
    obtain ⟨C, eC⟩ : ∃ C, C = if z.2 9 p = 1 then 10 else 11 := ⟨_, rfl⟩
    rw [← eC] at hpos ⊢
    have hC : (C = 10 ∧ z.2 9 p = 1) ∨ (C = 11 ∧ z.2 9 p = 2) := by
      rcases u1 with q | q
      · rw [if_pos q] at eC; exact Or.inl ⟨eC, q⟩
      · rw [if_neg (by omega)] at eC; exact Or.inr ⟨eC, q⟩
    have r9 : (zA (zA z C (sg p) (z.2 C (sg p) - 1)) 9 p 0).2 9 = va_up (z.2 9) p 0 := by
      rw [zA2, if_pos rfl, zA2, if_neg (by omega)]
    have rn : ∀ b, b ≠ 9 → b ≠ C → (zA (zA z C (sg p) (z.2 C (sg p) - 1)) 9 p 0).2 b = z.2 b := fun b h1 h2 => by
      rw [zA2, if_neg h1, zA2, if_neg h2]
    have rC : (zA (zA z C (sg p) (z.2 C (sg p) - 1)) 9 p 0).2 C = va_up (z.2 C) (sg p) (z.2 C (sg p) - 1) := by
      rw [zA2, if_neg (by omega), zA2, if_pos rfl]
    obtain ⟨Y, eY⟩ : ∃ Y, Y = zA (zA z C (sg p) (z.2 C (sg p) - 1)) 9 p 0 := ⟨_, rfl⟩
    have Y1 : Y.1 = z.1 := by rw [eY]; rfl
    rw [← eY] at r9 rn rC ⊢
    have rle : ∀ b s, b = 10 ∨ b = 11 → Y.2 b s ≤ z.2 b s := by
      intro b s hb
      by_cases q : b = C
      · rw [q, rC]
        unfold va_up
        split
        · rename_i w; rw [w]; omega
        · exact Nat.le_refl _
      · rw [rn b (by omega) q]
        exact Nat.le_refl _
    have r5 : Y.2 5 = z.2 5 := rn 5 (by decide) (by omega)
    have r12 : Y.2 12 = z.2 12 := rn 12 (by decide) (by omega)
    have r4 : Y.2 4 = z.2 4 := rn 4 (by decide) (by omega)
    refine ⟨⟨⟨?_, fun b hb => ?_, fun s hs => ?_, ?_, ?_, ⟨fun s hs => ?_, by rw [Y1]; exact hp2⟩⟩, ?_⟩, ?_⟩
    · unfold LGs; rw [Y1]; exact ha
    · rw [r9] at hb ⊢
      by_cases q : b = p
      · rw [q, va_up_self] at hb; exact absurd rfl hb
      · rw [va_up_ne _ _ q] at hb ⊢
        rw [Y1, r5]
        exact hu b hb
    · have c1 := cntF_up (u := z.2 9) (b := p) (v := 0) u2 1 s
      have c2 := cntF_up (u := z.2 9) (b := p) (v := 0) u2 2 s
      have hcs := hc s hs
      rw [r9]
      rw [if_neg (c := s = sg p ∧ 0 = 1) (by omega)] at c1
      rw [if_neg (c := s = sg p ∧ 0 = 2) (by omega)] at c2
      have hCs : Y.2 C s + (if s = sg p then 1 else 0) = z.2 C s := by
        rw [rC]
        by_cases w : s = sg p
        · rw [if_pos w, w, va_up_self]
          omega
        · rw [if_neg w, va_up_ne _ _ w]
          rfl
      rcases hC with ⟨q1, q2⟩ | ⟨q1, q2⟩
      · rw [q1] at hCs
        rw [rn 11 (by decide) (by omega)]
        rw [q2] at c1 c2
        rw [if_neg (c := s = sg p ∧ 1 = 2) (by omega)] at c2
        by_cases w : s = sg p
        · rw [if_pos w] at hCs
          rw [if_pos ⟨w, rfl⟩] at c1
          omega
        · rw [if_neg w] at hCs
          rw [if_neg (fun v => w v.1)] at c1
          omega
      · rw [q1] at hCs
        rw [rn 10 (by decide) (by omega)]
        rw [q2] at c1 c2
        rw [if_neg (c := s = sg p ∧ 2 = 1) (by omega)] at c1
        by_cases w : s = sg p
        · rw [if_pos w] at hCs
          rw [if_pos ⟨w, rfl⟩] at c2
          omega
        · rw [if_neg w] at hCs
          rw [if_neg (fun v => w v.1)] at c2
          omega
    · unfold LGf; rw [Y1, r12, r5]; exact hf
    · unfold LGw zW; rw [r5, r4]; exact hw
    · have h1 := rle 10 s (Or.inl rfl)
      have h2 := rle 11 s (Or.inr rfl)
      have h3 := hp1 s hs
      omega
    · unfold LGe isE
      rw [Y1, r12, r5]
      have h1 := rle 11 (sg (z.1 8)) (Or.inr rfl)
      have h2 := rle 10 (sg (z.1 9)) (Or.inl rfl)
      exact ⟨e1, e2, e3, by omega, by omega⟩
    · unfold Uz; rw [Y1]
  · rw [if_neg hp]
    exact ⟨h, rfl⟩
