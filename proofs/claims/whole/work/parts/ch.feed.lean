/-! the model: feed -/
theorem shb {v s : Nat} (b : Int32) (hb : (b.toBitVec.smod 32).toNat = s) (hs : s ≤ 24) : (nI v >>> b).toInt8 = (nI (v / 2 ^ s)).toInt8 := by
  refine Int8.toBitVec_inj.mp ?_
  rw [Int32.toBitVec_toInt8, Int32.toBitVec_toInt8, BitVec.signExtend_eq_setWidth_of_le _ (by decide), BitVec.signExtend_eq_setWidth_of_le _ (by decide), Int32.toBitVec_shiftRight]
  show BitVec.setWidth 8 ((nI v).toBitVec.sshiftRight (b.toBitVec.smod 32).toNat) = _
  rw [hb]
  refine BitVec.eq_of_getLsbD_eq (fun i hi => ?_)
  have e1 : (nI v).toBitVec = BitVec.ofNat 32 v := rfl
  have e2 : (nI (v / 2 ^ s)).toBitVec = BitVec.ofNat 32 (v / 2 ^ s) := rfl
  rw [e1, e2, BitVec.getLsbD_setWidth, BitVec.getLsbD_setWidth, BitVec.getLsbD_sshiftRight, if_pos (by omega), BitVec.getLsbD_ofNat, BitVec.getLsbD_ofNat, Nat.testBit_div_two_pow]
  have h1 : decide (32 ≤ i) = false := decide_eq_false (by omega)
  have h2 : decide (s + i < 32) = true := decide_eq_true (by omega)
  have h3 : decide (i < 32) = true := decide_eq_true (by omega)
  rw [h1, h2, h3, Nat.add_comm i s]
  rfl
def shI (t : Nat) : Int32 := (24 : Int32) - (8 : Int32) * nI t
def FD (y x : NSt) (w : Nat → Nat) (t : Nat) : Prop := (y.1 9 = x.1 9 + t) ∧ (∀ k, k ≠ 9 → y.1 k = x.1 k) ∧ (∀ a, a ≠ 0 → y.2 a = x.2 a) ∧ (∀ i, y.2 0 i = if x.1 9 ≤ i ∧ i < x.1 9 + t then sxN (gb w (i - x.1 9)) else x.2 0 i)
theorem FD.s9 {y x : NSt} {w : Nat → Nat} {t : Nat} (h9 : FD y x w t) : y.1 9 = x.1 9 + t := h9.1
theorem FD.so {y x : NSt} {w : Nat → Nat} {t : Nat} (h9 : FD y x w t) : ∀ k, k ≠ 9 → y.1 k = x.1 k := h9.2.1
theorem FD.ar {y x : NSt} {w : Nat → Nat} {t : Nat} (h9 : FD y x w t) : ∀ a, a ≠ 0 → y.2 a = x.2 a := h9.2.2.1
theorem FD.tp {y x : NSt} {w : Nat → Nat} {t : Nat} (h9 : FD y x w t) : ∀ i, y.2 0 i = if x.1 9 ≤ i ∧ i < x.1 9 + t then sxN (gb w (i - x.1 9)) else x.2 0 i := h9.2.2.2
theorem fd_b (FU : Nat) {x : NSt} {w : Nat → Nat} (hx : x.1 9 ≤ 2040) (K : Int32 → Int32 → Int32 → Int32 → Int32 → Int32 → St → Option (Int32 × St)) (Q : Int32 × St → Prop) {y1 y2 y3 y4 y5 : Int32} {j : Nat} (hj : j < 5) (hK : ∀ z, FD z x w (4 * j + 4) → Ev (K y1 y2 y3 y4 y5 (nI (j + 1)) (up z)) Q) : ∀ (m t q : Nat) (y : NSt), t + m = 4 → m < q → FD y x w (4 * j + t) → Ev (Mod_feed_b85 FU K q y1 y2 y3 y4 y5 (nI j) (nI (w j)) (shI t) (up y)) Q := by
  intro m
  induction m with
  | zero =>
    intro t q y h1 h2 hy
    obtain ⟨q, rfl⟩ : ∃ q9, q = q9 + 1 := ⟨q - 1, by omega⟩
    have h1 : t = 4 := h1
    subst h1
    unfold Mod_feed_b85
    rw [if_pos (show shI 4 < (0 : Int32) by decide), nI_1]
    exact hK y hy
  | succ m ih =>
    intro t q y h1 h2 hy
    obtain ⟨q, rfl⟩ : ∃ q9, q = q9 + 1 := ⟨q - 1, by omega⟩
    have ht : t = 0 ∨ t = 1 ∨ t = 2 ∨ t = 3 := by omega
    unfold Mod_feed_b85
    have e0 : ¬ shI t < (0 : Int32) := by rcases ht with rfl | rfl | rfl | rfl <;> decide
    have eb : ((shI t &&& (31 : Int32)).toBitVec.smod 32).toNat = 24 - 8 * t := by rcases ht with rfl | rfl | rfl | rfl <;> decide
    have en : shI t + (-8 : Int32) = shI (t + 1) := by rcases ht with rfl | rfl | rfl | rfl <;> decide
    have ep : 2 ^ (24 - 8 * t) = 256 ^ (3 - t) := by rcases ht with rfl | rfl | rfl | rfl <;> decide
    have eg : gb w (4 * j + t) = w j / 256 ^ (3 - t) % 256 := by
      unfold gb
      rw [show (4 * j + t) / 4 = j by omega, show (4 * j + t) % 4 = t by omega]
    rw [if_neg e0, shb _ eb (by omega), nby_b, ep, ← eg, up1, hy.s9, wrA_z y 0 (by omega) (by decide), Option.bind_some, nx_eq, up1, show (zA y 0 (x.1 9 + (4 * j + t)) (sxN (gb w (4 * j + t)))).1 9 = x.1 9 + (4 * j + t) from hy.s9, nI_1, up_I, en]
    refine ih (t + 1) q _ (by omega) (by omega) ⟨?_, fun k hk => ?_, fun a ha => ?_, fun i => ?_⟩
    · rw [zI1, if_pos rfl]
      omega
    · rw [zI1, if_neg hk]; exact hy.so k hk
    · rw [zI2, zA2, if_neg ha]; exact hy.ar a ha
    · rw [zI2, zA2, if_pos rfl]
      by_cases c : i = x.1 9 + (4 * j + t)
      · rw [c, va_up_self, if_pos (by omega), show x.1 9 + (4 * j + t) - x.1 9 = 4 * j + t by omega]
      · rw [va_up_ne _ _ c, hy.tp i]
        by_cases d : x.1 9 ≤ i ∧ i < x.1 9 + (4 * j + t)
        · rw [if_pos d, if_pos (by omega)]
        · rw [if_neg d, if_neg (by omega)]
theorem fd_w {FU : Nat} (hF : 140000 < FU) {x : NSt} {w : Nat → Nat} (hx : x.1 9 ≤ 2040) : ∀ (m j q : Nat) (y : NSt), j + m = 5 → m < q → FD y x w (4 * j) → Ev (Mod_feed_b31 FU q (nI (w 0)) (nI (w 1)) (nI (w 2)) (nI (w 3)) (nI (w 4)) (nI j) (up y)) fun r => ∃ z, r = (nI (x.1 9 + 20), up z) ∧ FD z x w 20 := by
  intro m
  induction m with
  | zero =>
    intro j q y h1 h2 hy
    obtain ⟨q, rfl⟩ : ∃ q9, q = q9 + 1 := ⟨q - 1, by omega⟩
    have h1 : j = 5 := h1
    subst h1
    unfold Mod_feed_b31
    rw [if_pos (show (5 : Int32) ≤ nI 5 by decide), up1, hy.s9]
    exact Ev.ret ⟨y, rfl, hy⟩
  | succ m ih =>
    intro j q y h1 h2 hy
    obtain ⟨q, rfl⟩ : ∃ q9, q = q9 + 1 := ⟨q - 1, by omega⟩
    unfold Mod_feed_b31 Mod_feed_b79
    have go := fd_b FU hx (Mod_feed_b31 FU q) (fun r => ∃ z, r = (nI (x.1 9 + 20), up z) ∧ FD z x w 20) (y1 := nI (w 0)) (y2 := nI (w 1)) (y3 := nI (w 2)) (y4 := nI (w 3)) (y5 := nI (w 4)) (j := j) (by omega) (fun z hz => ih (j + 1) q z (by omega) (by omega) hz) 4 0 FU y (by omega) (by omega) hy
    have e24 : shI 0 = (24 : Int32) := by decide
    rw [e24] at go
    have hj : j = 0 ∨ j = 1 ∨ j = 2 ∨ j = 3 ∨ j = 4 := by omega
    rcases hj with rfl | rfl | rfl | rfl | rfl
    · rw [if_neg (show ¬ (5 : Int32) ≤ nI 0 by decide), if_pos i00]; exact go
    · rw [if_neg (show ¬ (5 : Int32) ≤ nI 1 by decide), if_neg n1, if_pos (show nI 1 = (1 : Int32) from rfl)]; exact go
    · rw [if_neg (show ¬ (5 : Int32) ≤ nI 2 by decide), if_neg (show ¬ nI 2 = (0 : Int32) by decide), if_neg (show ¬ nI 2 = (1 : Int32) by decide), if_pos (show nI 2 = (2 : Int32) from rfl)]; exact go
    · rw [if_neg (show ¬ (5 : Int32) ≤ nI 3 by decide), if_neg (show ¬ nI 3 = (0 : Int32) by decide), if_neg (show ¬ nI 3 = (1 : Int32) by decide), if_neg (show ¬ nI 3 = (2 : Int32) by decide), if_pos (show nI 3 = (3 : Int32) from rfl)]; exact go
    · rw [if_neg (show ¬ (5 : Int32) ≤ nI 4 by decide), if_neg (show ¬ nI 4 = (0 : Int32) by decide), if_neg (show ¬ nI 4 = (1 : Int32) by decide), if_neg (show ¬ nI 4 = (2 : Int32) by decide), if_neg (show ¬ nI 4 = (3 : Int32) by decide)]; exact go
/-- what every state has, also before the first format -/
def MC (w : NSt) (A : AB) : Prop := (A.dv ≤ 2 ∧ w.1 1 = (if A.dv = 0 then 0 else 1) ∧ w.1 2 = (if A.dv = 2 then 1 else 0)) ∧ ((A.ct = 0 ∧ w.1 8 = neg1) ∨ (A.ct = 1 ∧ w.1 8 < 2 ^ 31)) ∧ (A.dv ≠ 2 → A.ct = 0) ∧ (w.1 9 = A.tl ∧ A.tl ≤ 2060) ∧ (w.1 10 = A.ol ∧ A.ol ≤ 2000) ∧ (∀ i, i < 2060 → w.2 0 i = sxN (A.tp i) ∧ A.tp i < 256) ∧ (∀ i, i < A.ol → w.2 1 i = sxN (A.tb i) ∧ A.tb i < 256) ∧ (∀ a i, w.2 a i < 2 ^ 32)
theorem MC.dv {w : NSt} {A : AB} (h9 : MC w A) : A.dv ≤ 2 ∧ w.1 1 = (if A.dv = 0 then 0 else 1) ∧ w.1 2 = (if A.dv = 2 then 1 else 0) := h9.1
theorem MC.ct {w : NSt} {A : AB} (h9 : MC w A) : (A.ct = 0 ∧ w.1 8 = neg1) ∨ (A.ct = 1 ∧ w.1 8 < 2 ^ 31) := h9.2.1
theorem MC.cd {w : NSt} {A : AB} (h9 : MC w A) : A.dv ≠ 2 → A.ct = 0 := h9.2.2.1
theorem MC.tl {w : NSt} {A : AB} (h9 : MC w A) : w.1 9 = A.tl ∧ A.tl ≤ 2060 := h9.2.2.2.1
theorem MC.ol {w : NSt} {A : AB} (h9 : MC w A) : w.1 10 = A.ol ∧ A.ol ≤ 2000 := h9.2.2.2.2.1
theorem MC.tp {w : NSt} {A : AB} (h9 : MC w A) : ∀ i, i < 2060 → w.2 0 i = sxN (A.tp i) ∧ A.tp i < 256 := h9.2.2.2.2.2.1
theorem MC.tb {w : NSt} {A : AB} (h9 : MC w A) : ∀ i, i < A.ol → w.2 1 i = sxN (A.tb i) ∧ A.tb i < 256 := h9.2.2.2.2.2.2.1
theorem MC.wd {w : NSt} {A : AB} (h9 : MC w A) : ∀ a i, w.2 a i < 2 ^ 32 := h9.2.2.2.2.2.2.2
theorem MI.mc {w : NSt} {A : AB} (h : MI w A) : MC w A := ⟨h.dv, h.ct, h.cd, h.tl, h.ol, h.tp, h.tb, h.po.wd⟩
/-- feed, over the common part -/
theorem feed_m {FU : Nat} (hF : 140000 < FU) {x : NSt} {A : AB} (h : MC x A) (ws : Nat → Nat) : Ev (Mod_feed FU (nI (ws 0)) (nI (ws 1)) (nI (ws 2)) (nI (ws 3)) (nI (ws 4)) (up x)) fun q => ∃ y, q.2 = up y ∧ y.1 0 = ofC (feedA ws A).1 ∧ (ofC (feedA ws A).1 = 0 → q.1 = nI (feedA ws A).2.1) ∧ MC y (feedA ws A).2.2 ∧ (∀ k, k ≠ 0 → k ≠ 9 → y.1 k = x.1 k) ∧ (∀ a, a ≠ 0 → y.2 a = x.2 a) := by
  unfold Mod_feed Mod_feed_b19 feedA
  obtain ⟨t1, t2⟩ := h.tl
  rw [up1, t1, show (20 : Int32) = nI 20 from rfl, nI_add]
  by_cases c : 2040 < A.tl
  · rw [if_neg (show ¬ nI (A.tl + 20) ≤ (2060 : Int32) from nI_ge (a := 2060) (by omega) (by omega)), if_pos c, th10, Option.bind_some, if_neg n1]
    refine Ev.ret ⟨thw x 1, rfl, thw0 x 1, (fun q => absurd q (show ¬ (1 : Nat) = 0 by decide)), ⟨h.dv, h.ct, h.cd, h.tl, h.ol, h.tp, h.tb, h.wd⟩, fun k k0 _ => by unfold thw; rw [zI1, if_neg k0], fun _ _ => rfl⟩
  · rw [if_pos (show nI (A.tl + 20) ≤ (2060 : Int32) from nI_le (b := 2060) (by omega) (by omega)), if_neg c, th00, Option.bind_some, if_pos i00]
    have s9 : (thw x 0).1 9 = A.tl := by unfold thw; rw [zI1, if_neg (by decide), t1]
    refine (fd_w hF (x := thw x 0) (w := ws) (by rw [s9]; omega) 5 0 FU (thw x 0) (by omega) (by omega) ⟨rfl, fun _ _ => rfl, fun _ _ => rfl, fun i => by rw [if_neg (by omega)]⟩).mono ?_
    rintro _ ⟨z, rfl, hz⟩
    have so : ∀ k, k ≠ 0 → k ≠ 9 → z.1 k = x.1 k := fun k k0 k9 => by rw [hz.so k k9]; unfold thw; rw [zI1, if_neg k0]
    refine ⟨z, rfl, ?_, fun _ => by rw [s9], ⟨?_, ?_, h.cd, ?_, ?_, fun i hi => ?_, ?_, fun a i => ?_⟩, so, fun a ha => hz.ar a ha⟩
    · rw [hz.so 0 (by decide), thw0]; rfl
    · rw [so 1 (by decide) (by decide), so 2 (by decide) (by decide)]; exact h.dv
    · rw [so 8 (by decide) (by decide)]; exact h.ct
    · rw [hz.s9, s9]
      exact ⟨rfl, by show A.tl + 20 ≤ 2060; omega⟩
    · rw [so 10 (by decide) (by decide)]; exact h.ol
    · rw [hz.tp i, s9]
      show (if A.tl ≤ i ∧ i < A.tl + 20 then sxN (gb ws (i - A.tl)) else x.2 0 i) = sxN (if A.tl ≤ i ∧ i < A.tl + 20 then gb ws (i - A.tl) else A.tp i) ∧ (if A.tl ≤ i ∧ i < A.tl + 20 then gb ws (i - A.tl) else A.tp i) < 256
      by_cases d : A.tl ≤ i ∧ i < A.tl + 20
      · rw [if_pos d, if_pos d]; exact ⟨rfl, gb_lt _ _⟩
      · rw [if_neg d, if_neg d]; exact h.tp i hi
    · rw [hz.ar 1 (by decide)]; exact h.tb
    · by_cases d : a = 0
      · rw [d, hz.tp i]
        split
        · exact sxN_lt (gb_lt _ _)
        · exact h.wd 0 i
      · rw [hz.ar a d]; exact h.wd a i
theorem MI.ofMC {w y : NSt} {A B : AB} (h : MI w A) (hy : MC y B) (ms : B.rm = A.rm ∧ B.us = A.us ∧ B.fr = A.fr ∧ B.tk = A.tk ∧ B.fw = A.fw) (hs : ∀ k, 3 ≤ k → k ≤ 7 ∨ 11 ≤ k → y.1 k = w.1 k) (ha : ∀ a, 2 ≤ a → y.2 a = w.2 a) (eT : B.T = A.T) (eO : B.O = A.O) (eS : B.S = A.S) (eF : B.F = A.F) (er : B.rn = A.rn) : MI y B := by
  refine h.io (fun k hk => hs k (by omega) (by omega)) ha hy.wd hy.dv ?_ hy.ct hy.cd hy.tl hy.ol hy.tp hy.tb eT eO eS eF er
  obtain ⟨m1, m2, m3, m4, m5⟩ := ms
  rw [m1, m2, m3, m4, m5, hs 3 (by decide) (by decide), hs 4 (by decide) (by decide), hs 5 (by decide) (by decide), hs 6 (by decide) (by decide), hs 7 (by decide) (by decide)]
  exact h.ms
theorem mo_feed {FU : Nat} (hF : 140000 < FU) {w : NSt} {A : AB} (h : MI w A) (ws : Nat → Nat) : AnsM (Mod_feed FU (nI (ws 0)) (nI (ws 1)) (nI (ws 2)) (nI (ws 3)) (nI (ws 4)) (up w)) (ofC (feedA ws A).1) (feedA ws A) := by
  refine (feed_m hF h.mc ws).mono ?_
  rintro q ⟨y, e1, e2, e3, e4, e5, e6⟩
  refine ⟨y, e1, e2, e3, ?_⟩
  refine h.ofMC e4 ?_ (fun k k1 k2 => e5 k (by omega) (by omega)) (fun a ha => e6 a (by omega)) ?_ ?_ ?_ ?_ ?_
  all_goals
    unfold feedA
    split
  all_goals first | exact ⟨rfl, rfl, rfl, rfl, rfl⟩ | rfl
