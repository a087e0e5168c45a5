/-! rows: the tape, and names out of it -/
def sgn (n : Nat) : Int := if n < 2 ^ 31 then (n : Int) else (n : Int) - 4294967296
theorem nI_sg {n : Nat} (h : n < 2 ^ 32) : (nI n).toInt = sgn n := by
  unfold sgn
  by_cases c : n < 2 ^ 31
  · rw [if_pos c, nI_toInt c]
  · rw [if_neg c]
    show (Int32.ofNat n).toInt = _
    rw [Int32.toInt_ofNat']
    unfold Int.bmod
    show (if (n : Int) % 4294967296 < (4294967296 + 1) / 2 then (n : Int) % 4294967296 else (n : Int) % 4294967296 - 4294967296) = _
    rw [if_neg (by omega)]
    omega
theorem nI_ltS {a b : Nat} (ha : a < 2 ^ 32) (hb : b < 2 ^ 32) : nI a < nI b ↔ sgn a < sgn b := by
  rw [Int32.lt_iff_toInt_lt, nI_sg ha, nI_sg hb]
theorem nI_leS {a b : Nat} (ha : a < 2 ^ 32) (hb : b < 2 ^ 32) : nI a ≤ nI b ↔ sgn a ≤ sgn b := by
  rw [Int32.le_iff_toInt_le, nI_sg ha, nI_sg hb]
theorem sgn_lo {n : Nat} (h : n < 2 ^ 31) : sgn n = n := if_pos h
theorem sgn_hi {n : Nat} (h : ¬ n < 2 ^ 31) : sgn n = (n : Int) - 4294967296 := if_neg h
theorem Row_add0 (FU : Nat) (z : NSt) {v : Nat} (hl : z.1 0 < 2060) : Row_add FU 0 (nI v) (up z) = some (up (zI (zA z 0 (z.1 0) (v % 256)) 0 (z.1 0 + 1))) := by
  unfold Row_add
  have e : lenF 0 = 2060 := rfl
  rw [e, up1, if_neg (nI_ge hl (by decide)), nI_mod, wrA_z z 0 hl (by decide), Option.bind_some, nx_eq, up1, zA1, nI_1, up_I]
/-- m bytes more -/
def pushN (z : NSt) (f : Nat → Nat) (m : Nat) : NSt := zI (zR z 0 (fun i => if z.1 0 ≤ i ∧ i < z.1 0 + m then f (i - z.1 0) else z.2 0 i)) 0 (z.1 0 + m)
theorem pushN_0 (z : NSt) (f : Nat → Nat) : pushN z f 0 = z := by
  unfold pushN
  refine Prod.ext (funext fun k => ?_) (funext fun a => ?_)
  · rw [zI1, zR1]
    by_cases c : k = 0
    · rw [if_pos c, c]; rfl
    · rw [if_neg c]
  · rw [zI2, zR2]
    by_cases c : a = 0
    · rw [if_pos c, c]
      funext i
      rw [if_neg (by omega)]
    · rw [if_neg c]
theorem pushN_s (z : NSt) (f : Nat → Nat) (m : Nat) : zI (zA (pushN z f m) 0 ((pushN z f m).1 0) (f m)) 0 ((pushN z f m).1 0 + 1) = pushN z f (m + 1) := by
  have e0 : (pushN z f m).1 0 = z.1 0 + m := rfl
  rw [e0]
  refine Prod.ext (funext fun k => ?_) (funext fun a => ?_)
  · unfold pushN
    rw [zI1, zA1, zI1, zR1, zI1, zR1]
    by_cases c : k = 0
    · rw [if_pos c, if_pos c]; omega
    · rw [if_neg c, if_neg c, if_neg c]
  · rw [zI2, zA2]
    by_cases c : a = 0
    · rw [if_pos c, c]
      funext i
      have e1 : (pushN z f m).2 0 = fun i => if z.1 0 ≤ i ∧ i < z.1 0 + m then f (i - z.1 0) else z.2 0 i := rfl
      have e2 : (pushN z f (m + 1)).2 0 = fun i => if z.1 0 ≤ i ∧ i < z.1 0 + (m + 1) then f (i - z.1 0) else z.2 0 i := rfl
      rw [e1, e2]
      show (if i = z.1 0 + m then f m else (if z.1 0 ≤ i ∧ i < z.1 0 + m then f (i - z.1 0) else z.2 0 i)) = (if z.1 0 ≤ i ∧ i < z.1 0 + (m + 1) then f (i - z.1 0) else z.2 0 i)
      by_cases d : i = z.1 0 + m
      · rw [if_pos d, if_pos (by omega), d, Nat.add_sub_cancel_left]
      · rw [if_neg d]
        by_cases e : z.1 0 ≤ i ∧ i < z.1 0 + m
        · rw [if_pos e, if_pos (by omega)]
        · rw [if_neg e, if_neg (by omega)]
    · rw [if_neg c]
      unfold pushN
      rw [zI2, zR2, if_neg c, zI2, zR2, if_neg c]
theorem addByte_z (FU : Nat) (z : NSt) (f : Nat → Nat) {m v : Nat} (hl : z.1 0 + m < 2060) (hv : v % 256 = f m) : Row_add FU 0 (nI v) (up (pushN z f m)) = some (up (pushN z f (m + 1))) := by
  rw [Row_add0 FU (pushN z f m) (show z.1 0 + m < 2060 from hl), hv, pushN_s]
theorem ush24 {w : Nat} (hw : w < 2 ^ 32) : ush (nI w) (24 : Int32) = nI (w / 2 ^ 24) := ushN hw _ 24 (by decide)
theorem ush16 {w : Nat} (hw : w < 2 ^ 32) : ush (nI w) (24 + -8 : Int32) = nI (w / 2 ^ 16) := ushN hw _ 16 (by decide)
theorem ush8 {w : Nat} (hw : w < 2 ^ 32) : ush (nI w) (24 + -8 + -8 : Int32) = nI (w / 2 ^ 8) := ushN hw _ 8 (by decide)
theorem ush0 {w : Nat} (hw : w < 2 ^ 32) : ush (nI w) (24 + -8 + -8 + -8 : Int32) = nI (w / 2 ^ 0) := ushN hw _ 0 (by decide)
theorem addWord_z {FU : Nat} (hF : 10 < FU) (z : NSt) (f : Nat → Nat) {m w : Nat} (hl : z.1 0 + m + 4 ≤ 2060) (hw : w < 2 ^ 32) (h0 : w / 2 ^ 24 % 256 = f m) (h1 : w / 2 ^ 16 % 256 = f (m + 1)) (h2 : w / 2 ^ 8 % 256 = f (m + 2)) (h3 : w / 2 ^ 0 % 256 = f (m + 3)) : Row_addWord FU 0 (nI w) (up (pushN z f m)) = some (up (pushN z f (m + 4))) := by
  unfold Row_addWord
  obtain ⟨q, rfl⟩ : ∃ q, FU = q + 1 + 1 + 1 + 1 + 1 := ⟨FU - 5, by omega⟩
  show (if (24 : Int32) < 0 then _ else _) = _
  rw [if_neg (by decide), ush24 hw, addByte_z _ z f (by omega) h0, Option.bind_some]
  show (if (24 + -8 : Int32) < 0 then _ else _) = _
  rw [if_neg (by decide), ush16 hw, addByte_z _ z f (by omega) h1, Option.bind_some]
  show (if (24 + -8 + -8 : Int32) < 0 then _ else _) = _
  rw [if_neg (by decide), ush8 hw, addByte_z _ z f (by omega) h2, Option.bind_some]
  show (if (24 + -8 + -8 + -8 : Int32) < 0 then _ else _) = _
  rw [if_neg (by decide), ush0 hw, addByte_z _ z f (by omega) h3, Option.bind_some]
  show (if (24 + -8 + -8 + -8 + -8 : Int32) < 0 then _ else _) = _
  rw [if_pos (by decide)]
theorem gb_4 (w : Nat → Nat) (j : Nat) : gb w (4 * j) = w j / 2 ^ 24 % 256 ∧ gb w (4 * j + 1) = w j / 2 ^ 16 % 256 ∧ gb w (4 * j + 2) = w j / 2 ^ 8 % 256 ∧ gb w (4 * j + 3) = w j / 2 ^ 0 % 256 := by
  unfold gb
  refine ⟨?_, ?_, ?_, ?_⟩
  · rw [show 4 * j / 4 = j by omega, show 4 * j % 4 = 0 by omega]
  · rw [show (4 * j + 1) / 4 = j by omega, show (4 * j + 1) % 4 = 1 by omega]
  · rw [show (4 * j + 2) / 4 = j by omega, show (4 * j + 2) % 4 = 2 by omega]
  · rw [show (4 * j + 3) / 4 = j by omega, show (4 * j + 3) % 4 = 3 by omega]
theorem addWord_g {FU : Nat} (hF : 10 < FU) (z : NSt) (w : Nat → Nat) {j : Nat} (hl : z.1 0 + 4 * j + 4 ≤ 2060) (hw : w j < 2 ^ 32) : Row_addWord FU 0 (nI (w j)) (up (pushN z (gb w) (4 * j))) = some (up (pushN z (gb w) (4 * j + 4))) := by
  obtain ⟨a, b, c, d⟩ := gb_4 w j
  exact addWord_z hF z (gb w) hl hw a.symm b.symm c.symm d.symm
theorem feed_z {FU : Nat} (hF : 10 < FU) (z : NSt) (w : Nat → Nat) (hw : ∀ j, j < 5 → w j < 2 ^ 32) (hl : z.1 0 ≤ 2060) : FF_feed FU (nI (w 0)) (nI (w 1)) (nI (w 2)) (nI (w 3)) (nI (w 4)) (up z) = if 2040 < z.1 0 then some (2, 0, up z) else some (0, nI (z.1 0 + 20), up (pushN z (gb w) 20)) := by
  unfold FF_feed Row_length
  rw [Option.bind_some, up1]
  by_cases c : 2040 < z.1 0
  · rw [if_pos c, show (2040 : Int32) = nI 2040 from rfl, if_neg (nI_ge c (by omega))]
  · rw [if_neg c, show (2040 : Int32) = nI 2040 from rfl, if_pos (nI_le (by omega) (by decide))]
    have s0 := addWord_g hF z w (j := 0) (by omega) (hw 0 (by decide))
    rw [show 4 * 0 = 0 from rfl, pushN_0, show 0 + 4 = 4 from rfl] at s0
    have s1 := addWord_g hF z w (j := 1) (by omega) (hw 1 (by decide))
    have s2 := addWord_g hF z w (j := 2) (by omega) (hw 2 (by decide))
    have s3 := addWord_g hF z w (j := 3) (by omega) (hw 3 (by decide))
    have s4 := addWord_g hF z w (j := 4) (by omega) (hw 4 (by decide))
    rw [s0, Option.bind_some, s1, Option.bind_some, s2, Option.bind_some, s3, Option.bind_some, s4, Option.bind_some]
    rfl
/-- a name is packed -/
theorem nm_hn {z : NSt} {a : Nat} (hw : ∀ j, z.2 a j < 2 ^ 32) {f : Nat → Nat} (h : ∀ j, j < 20 → gb (z.2 a) j = f j) : nmA z a = hn 256 f 20 := by
  unfold nmA
  rw [← hn_words (f := z.2 a) (m := 5) (fun j _ => hw j)]
  exact hn_congr (fun i hi => h i hi)
def nmF (tp : Nat → Nat) (at' n i : Nat) : Nat := if i < n then tp (at' + i) else 0
theorem packName_b (FU a : Nat) (ha : a = 2 ∨ a = 3) {at' n0 : Nat} (hn0 : 1 ≤ n0 ∧ n0 ≤ 20) (hat : at' + n0 ≤ 2060) {z : NSt} (htp : ∀ i, i < 2060 → z.2 0 i < 256) (hz0 : ∀ j, j < 6 → z.2 a j = 0) (hzw : ∀ j, z.2 a j < 2 ^ 32) : ∀ (m i n : Nat) (y : NSt), i + m = n0 → m < n → (∀ j, j < i → z.2 0 (at' + j) ≠ 0 ∧ z.2 0 (at' + j) ≠ 47) → BYT z y a 0 0 i (fun k => z.2 0 (at' + k)) →
    Ev (Row_packName_b31 FU 0 a n (nI at') (nI n0) (nI i) (up y)) fun r => ∃ x v, r = (nI v, up x) ∧ x.1 = z.1 ∧ (∀ c, c ≠ a → x.2 c = z.2 c) ∧ (∀ j, x.2 a j < 2 ^ 32) ∧ ((v = 1 ∧ (∀ j, j < n0 → z.2 0 (at' + j) ≠ 0 ∧ z.2 0 (at' + j) ≠ 47) ∧ nmA x a = hn 256 (nmF (z.2 0) at' n0) 20 ∧ x.2 a 5 = n0) ∨ (v = 0 ∧ ∃ j, j < n0 ∧ ¬ (z.2 0 (at' + j) ≠ 0 ∧ z.2 0 (at' + j) ≠ 47))) := by
  have hl : lenF a = 6 := by rcases ha with rfl | rfl <;> rfl
  have ha0 : a ≠ 0 := by omega
  intro m
  induction m with
  | zero =>
    intro i n y h1 h2 h3 h4
    obtain ⟨n, rfl⟩ : ∃ q9, n = q9 + 1 := ⟨n - 1, by omega⟩
    have h1 : i = n0 := h1
    subst h1
    unfold Row_packName_b31
    rw [if_pos (nI_le (Nat.le_refl _) (by omega)), show (5 : Int32) = nI 5 from rfl, wrA_z y a (by omega) (by omega), Option.bind_some]
    refine Ev.ret ⟨_, 1, rfl, h4.s, fun c hc => by rw [zA2, if_neg hc, h4.ar c hc], fun j => ?_, Or.inl ⟨rfl, h3, ?_, ?_⟩⟩
    · rw [zA2, if_pos rfl]
      show (if j = 5 then i else y.2 a j) < 2 ^ 32
      split
      · omega
      · exact h4.wd hzw j
    · have e1 : nmA (zA y a 5 i) a = nmA y a := by
        unfold nmA
        refine hn_congr (fun j hj => ?_)
        rw [zA2, if_pos rfl]
        show (if j = 5 then i else y.2 a j) = _
        rw [if_neg (by omega)]
      rw [e1]
      refine nm_hn (h4.wd hzw) (fun j hj => ?_)
      have hb := h4.by' j
      have e3 : ∀ s : NSt, (fun j => s.2 a (0 + j)) = s.2 a := fun s => by funext j; rw [Nat.zero_add]
      rw [e3, e3] at hb
      rw [hb]
      unfold nmF
      by_cases c : j < i
      · rw [if_pos (by omega), if_pos c]
        exact Nat.mod_eq_of_lt (htp _ (by omega))
      · rw [if_neg (by omega), if_neg c]
        exact gb_0 (hz0 _ (by omega))
    · rw [zA2, if_pos rfl]
      exact va_up_self _ _ _
  | succ m ih =>
    intro i n y h1 h2 h3 h4
    obtain ⟨n, rfl⟩ : ∃ q9, n = q9 + 1 := ⟨n - 1, by omega⟩
    unfold Row_packName_b31
    have e0 : y.2 0 = z.2 0 := h4.ar 0 (Ne.symm ha0)
    rw [if_neg (nI_ge (by omega) (by omega)), nI_add, Row_at0 FU y (by omega), Option.bind_some, e0]
    have ht := htp (at' + i) (by omega)
    by_cases c0 : z.2 0 (at' + i) = 0
    · rw [c0, if_pos i00]
      exact Ev.ret ⟨y, 0, rfl, h4.s, h4.ar, h4.wd hzw, Or.inr ⟨rfl, i, by omega, fun w => w.1 c0⟩⟩
    · rw [if_neg (fun w : nI (z.2 0 (at' + i)) = (0 : Int32) => c0 ((nI_inj (b := 0) (by omega) (by decide)).mp w))]
      by_cases c1 : z.2 0 (at' + i) = 47
      · rw [c1, if_pos (show nI 47 = (47 : Int32) from rfl)]
        exact Ev.ret ⟨y, 0, rfl, h4.s, h4.ar, h4.wd hzw, Or.inr ⟨rfl, i, by omega, fun w => w.2 c1⟩⟩
      · rw [if_neg (fun w : nI (z.2 0 (at' + i)) = (47 : Int32) => c1 ((nI_inj (b := 47) (by omega) (by decide)).mp w)), show (0 : Int32) = nI 0 from rfl, putByte_z FU y a (by omega) (by omega), Option.bind_some, nI_1]
        refine ih (i + 1) n _ (by omega) (by omega) (fun j hj => ?_) (h4.step (v := z.2 0 (at' + i)) (Nat.zero_le _) rfl)
        by_cases q : j = i
        · rw [q]; exact ⟨c0, c1⟩
        · exact h3 j (by omega)
theorem NL_of {tp : Nat → Nat} {tl at' n : Nat} (h : nmOk tp tl at' n = true) (ht : ∀ i, i < tl → tp i < 256) : NL (nmN tp at' n) n := by
  unfold nmOk at h
  obtain ⟨h1, h2, h3, h4⟩ := of_decide_eq_true h
  refine ⟨h1, h2, _, rfl, fun i hi => ⟨?_, ⟨fun q => ?_, fun q => ?_⟩⟩⟩
  · show (if i < n then tp (at' + i) else 0) < 256
    split
    · exact ht _ (by omega)
    · decide
  · refine Classical.byContradiction (fun w => q ?_)
    show (if i < n then tp (at' + i) else 0) = 0
    rw [if_neg w]
  · show (if i < n then tp (at' + i) else 0) ≠ 0
    rw [if_pos q]
    exact (h4 i q).1
theorem packName_s {FU : Nat} (hF : 140000 < FU) {a : Nat} (ha : a = 2 ∨ a = 3) {at' n : Nat} (hnn : n < 2 ^ 32) (hat : at' ≤ 20) {z : NSt} (htl : z.1 0 ≤ 2060) (htp : ∀ i, i < 2060 → z.2 0 i < 256) (hzw : ∀ j, z.2 a j < 2 ^ 32) :
    Ev (Row_packName FU 0 a (nI at') (nI n) (up z)) fun r => ∃ x, r = (nI (if nmOk (z.2 0) (z.1 0) at' n = true then 1 else 0), up x) ∧ x.1 = z.1 ∧ (∀ c, c ≠ a → x.2 c = z.2 c) ∧ (∀ j, x.2 a j < 2 ^ 32) ∧ (nmOk (z.2 0) (z.1 0) at' n = true → nmA x a = nmN (z.2 0) at' n ∧ NL (nmA x a) (x.2 a 5)) := by
  have hl : lenF a = 6 := by rcases ha with rfl | rfl <;> rfl
  have no : ¬ (1 ≤ n ∧ n ≤ 20 ∧ at' + n ≤ z.1 0 ∧ ∀ i, i < n → z.2 0 (at' + i) ≠ 0 ∧ z.2 0 (at' + i) ≠ 47) → nmOk (z.2 0) (z.1 0) at' n = false := fun w => decide_eq_false w
  have bad : nmOk (z.2 0) (z.1 0) at' n = false → Ev (some ((0 : Int32), up z)) fun r => ∃ x, r = (nI (if nmOk (z.2 0) (z.1 0) at' n = true then 1 else 0), up x) ∧ x.1 = z.1 ∧ (∀ c, c ≠ a → x.2 c = z.2 c) ∧ (∀ j, x.2 a j < 2 ^ 32) ∧ (nmOk (z.2 0) (z.1 0) at' n = true → nmA x a = nmN (z.2 0) at' n ∧ NL (nmA x a) (x.2 a 5)) := fun w => by
    refine Ev.ret ⟨z, ?_, rfl, fun _ _ => rfl, hzw, fun q => ?_⟩
    · rw [w, if_neg (by decide)]; rfl
    · rw [w] at q; cases q
  unfold Row_packName
  rw [up1]
  by_cases c1 : nI n < (1 : Int32)
  · rw [if_pos c1]
    refine bad (no (fun w => ?_))
    rw [show (1 : Int32) = nI 1 from rfl, nI_ltS hnn (by decide), sgn_lo (n := n) (by omega), sgn_lo (n := 1) (by decide)] at c1
    omega
  rw [if_neg c1]
  by_cases c2 : (20 : Int32) < nI n
  · rw [if_pos c2]
    refine bad (no (fun w => ?_))
    rw [show (20 : Int32) = nI 20 from rfl, nI_ltS (by decide) hnn, sgn_lo (n := n) (by omega), sgn_lo (n := 20) (by decide)] at c2
    omega
  rw [if_neg c2]
  have hn1 : 1 ≤ n ∧ n ≤ 20 := by
    rw [show (1 : Int32) = nI 1 from rfl, nI_ltS hnn (by decide), sgn_lo (n := 1) (by decide)] at c1
    rw [show (20 : Int32) = nI 20 from rfl, nI_ltS (by decide) hnn, sgn_lo (n := 20) (by decide)] at c2
    by_cases q : n < 2 ^ 31
    · rw [sgn_lo q] at c1 c2
      omega
    · rw [sgn_hi q] at c1 c2
      omega
  have hs := pk_sub_toInt (a := z.1 0) (b := n) (by omega) (by omega)
  have ht := nI_toInt (n := at') (by omega)
  by_cases c3 : nI at' ≤ nI (z.1 0) - nI n
  · rw [if_pos c3]
    rw [Int32.le_iff_toInt_le] at c3
    rw [show (0 : Int32) = nI 0 from rfl, fill0_z a 0 z (by omega), Option.bind_some]
    obtain ⟨x, ex⟩ : ∃ x, x = zR z a (flN (z.2 a) 0 (lenF a) 0) := ⟨_, rfl⟩
    rw [← ex]
    have x1 : x.1 = z.1 := by rw [ex]; rfl
    have xa : ∀ c, c ≠ a → x.2 c = z.2 c := fun c hc => by rw [ex, zR2, if_neg hc]
    have x0 : x.2 0 = z.2 0 := xa 0 (by omega)
    have xx : ∀ j, x.2 a j = if j < 6 then 0 else z.2 a j := fun j => by
      rw [ex, zR2, if_pos rfl, hl]
      unfold flN
      by_cases c : j < 6
      · rw [if_pos ⟨by omega, c⟩, if_pos c]
      · rw [if_neg (by omega), if_neg c]
    refine (packName_b FU a ha hn1 (by omega) (z := x) (by rw [x0]; exact htp) (fun j hj => by rw [xx, if_pos hj]) (fun j => by rw [xx]; split; decide; exact hzw j) n 0 FU x (by omega) (by omega) (fun j hj => by omega) (BYT.rf _ _ _ _ _)).mono ?_
    rintro _ ⟨y, v, rfl, y1, y2, y3, y4⟩
    rw [x0] at y4
    rcases y4 with ⟨rfl, y5, y6, y7⟩ | ⟨rfl, j, j1, j2⟩
    · have hok : nmOk (z.2 0) (z.1 0) at' n = true := decide_eq_true ⟨hn1.1, hn1.2, by omega, y5⟩
      have hnl := NL_of hok (fun i hi => htp i (by omega))
      refine ⟨y, by rw [if_pos hok], by rw [y1, x1], fun c hc => by rw [y2 c hc, xa c hc], y3, fun _ => ⟨y6, ?_⟩⟩
      rw [y7, y6]
      exact hnl
    · have hno := no (fun w => j2 (w.2.2.2 j j1))
      refine ⟨y, by rw [hno, if_neg (by decide)], by rw [y1, x1], fun c hc => by rw [y2 c hc, xa c hc], y3, fun q => ?_⟩
      rw [hno] at q; cases q
  · rw [if_neg c3]
    rw [Int32.le_iff_toInt_le] at c3
    exact bad (no (fun w => by omega))
