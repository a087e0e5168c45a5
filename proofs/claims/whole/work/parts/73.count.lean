/-! counting; bytes and names -/
theorem sm_swap (f : Nat → Nat → Nat) (b : Nat) : ∀ a, sm (fun i => sm (f i) b) a = sm (fun j => sm (fun i => f i j) a) b := by
  intro a
  induction a with
  | zero => exact (sm_zero (fun _ _ => rfl)).symm
  | succ a ih =>
    show sm (fun i => sm (f i) b) a + sm (f a) b = _
    rw [ih, ← sm_add]
    exact sm_congr (fun j _ => rfl)
theorem sm_uniq {P : Nat → Prop} [DecidablePred P] {n x : Nat} (hx : x < n) (hp : P x) (hu : ∀ y, y < n → P y → y = x) : sm (fun i => if P i then 1 else 0) n = 1 := by
  have e : sm (fun i => if P i then 1 else 0) n = sm (va_up (fun _ => 0) x 1) n := sm_congr (fun i hi => by
    by_cases q : i = x
    · rw [q, va_up_self, if_pos hp]
    · rw [va_up_ne _ _ q, if_neg (fun w => q (hu i hi w))])
  have := sm_up (f := fun _ => 0) (i := x) (v := 1) (n := n) hx
  rw [sm_const] at this
  rw [e]
  omega
theorem cnt_e1 {A B : Nat} {f : Nat → Nat} {p : Nat → Prop} [DecidablePred p] (h1 : ∀ i, i < A → p i → f i < B) : sm (fun i => if p i then 1 else 0) A = sm (fun j => sm (fun i => if p i ∧ f i = j then 1 else 0) A) B := by
  rw [← sm_swap]
  refine sm_congr (fun i hi => ?_)
  by_cases c : p i
  · rw [if_pos c]
    exact (sm_uniq (P := fun j => p i ∧ f i = j) (x := f i) (h1 i hi c) ⟨c, rfl⟩ (fun y _ hy => hy.2.symm)).symm
  · rw [if_neg c]
    exact (sm_zero (fun j _ => if_neg (fun w => c w.1))).symm
theorem cnt_inj {A B : Nat} {f : Nat → Nat} {p q : Nat → Prop} [DecidablePred p] [DecidablePred q] (h1 : ∀ i, i < A → p i → f i < B ∧ q (f i)) (h2 : ∀ j, j < B → q j → ∃ i, i < A ∧ p i ∧ f i = j) (h3 : ∀ i i', i < A → i' < A → p i → p i' → f i = f i' → i = i') : sm (fun i => if p i then 1 else 0) A = sm (fun j => if q j then 1 else 0) B := by
  rw [cnt_e1 (fun i hi hp => (h1 i hi hp).1)]
  refine sm_congr (fun j hj => ?_)
  by_cases c : q j
  · obtain ⟨i, hi, hp, hf⟩ := h2 j hj c
    rw [if_pos c]
    exact sm_uniq (P := fun i => p i ∧ f i = j) (x := i) hi ⟨hp, hf⟩ (fun y hy hw => h3 y i hy hi hw.1 hp (hw.2.trans hf.symm))
  · rw [if_neg c]
    refine sm_zero (fun i hi => if_neg ?_)
    rintro ⟨w1, w2⟩
    exact c (w2 ▸ (h1 i hi w1).2)
theorem cnt_le {A B : Nat} {f : Nat → Nat} {p q : Nat → Prop} [DecidablePred p] [DecidablePred q] (h1 : ∀ i, i < A → p i → f i < B ∧ q (f i)) (h3 : ∀ i i', i < A → i' < A → p i → p i' → f i = f i' → i = i') : sm (fun i => if p i then 1 else 0) A ≤ sm (fun j => if q j then 1 else 0) B := by
  rw [cnt_e1 (fun i hi hp => (h1 i hi hp).1)]
  refine sm_le (fun j hj => ?_)
  by_cases c : ∃ i, i < A ∧ p i ∧ f i = j
  · obtain ⟨i, hi, hp, hf⟩ := c
    rw [if_pos (hf ▸ (h1 i hi hp).2)]
    exact Nat.le_of_eq (sm_uniq (P := fun i => p i ∧ f i = j) (x := i) hi ⟨hp, hf⟩ (fun y hy hw => h3 y i hy hi hw.1 hp (hw.2.trans hf.symm)))
  · have e : sm (fun i => if p i ∧ f i = j then 1 else 0) A = 0 := sm_zero (fun i hi => if_neg (fun w => c ⟨i, hi, w.1, w.2⟩))
    rw [e]
    exact Nat.zero_le _
theorem sm_flat (f : Nat → Nat → Nat) {c : Nat} (hc : 0 < c) : ∀ a, sm (fun x => sm (f x) c) a = sm (fun i => f (i / c) (i % c)) (a * c) := by
  intro a
  induction a with
  | zero => rw [Nat.zero_mul]; rfl
  | succ a ih =>
    show sm (fun x => sm (f x) c) a + sm (f a) c = _
    rw [Nat.succ_mul, sm_cut, ih]
    refine congrArg (sm (fun i => f (i / c) (i % c)) (a * c) + ·) (sm_congr (fun j hj => ?_))
    show f a j = f ((a * c + j) / c) ((a * c + j) % c)
    rw [Nat.mul_comm a c, Nat.mul_add_div hc, Nat.div_eq_of_lt hj, Nat.mul_add_mod, Nat.mod_eq_of_lt hj, Nat.add_zero]
theorem sm_bnd {f : Nat → Nat} {n c : Nat} (h : ∀ i, i < n → f i ≤ c) : sm f n ≤ n * c := by
  have := sm_le (f := f) (g := fun _ => c) (n := n) h
  rwa [sm_const] at this
/-- numbers out of digits, the highest first -/
def hn (B : Nat) (f : Nat → Nat) : Nat → Nat
  | 0 => 0
  | n + 1 => hn B f n * B + f n
theorem hn_congr {B : Nat} {f g : Nat → Nat} : ∀ {n : Nat}, (∀ i, i < n → f i = g i) → hn B f n = hn B g n := by
  intro n
  induction n with
  | zero => intro _; rfl
  | succ n ih =>
    intro h
    show hn B f n * B + f n = hn B g n * B + g n
    rw [ih (fun i hi => h i (by omega)), h n (by omega)]
theorem hn_inj {B : Nat} {f g : Nat → Nat} : ∀ {n : Nat}, (∀ i, i < n → f i < B) → (∀ i, i < n → g i < B) → hn B f n = hn B g n → ∀ i, i < n → f i = g i := by
  intro n
  induction n with
  | zero => intro _ _ _ i hi; omega
  | succ n ih =>
    intro hf hg h i hi
    have h : hn B f n * B + f n = hn B g n * B + g n := h
    have f1 := hf n (by omega)
    have g1 := hg n (by omega)
    have a1 : (hn B f n * B + f n) / B = hn B f n := by rw [Nat.mul_comm, Nat.mul_add_div (by omega), Nat.div_eq_of_lt f1, Nat.add_zero]
    have a2 : (hn B g n * B + g n) / B = hn B g n := by rw [Nat.mul_comm, Nat.mul_add_div (by omega), Nat.div_eq_of_lt g1, Nat.add_zero]
    have e : hn B f n = hn B g n := by rw [← a1, ← a2, h]
    by_cases q : i = n
    · rw [q]
      rw [e] at h
      omega
    · exact ih (fun i hi => hf i (by omega)) (fun i hi => hg i (by omega)) e i (by omega)
theorem hn_lt {B : Nat} {f g : Nat → Nat} {i : Nat} (h1 : ∀ j, j < i → f j = g j) (h2 : f i < g i) : ∀ {n : Nat}, (∀ j, j < n → f j < B) → i < n → hn B f n < hn B g n := by
  intro n
  induction n with
  | zero => intro _ h; omega
  | succ n ih =>
    intro hf hi
    show hn B f n * B + f n < hn B g n * B + g n
    by_cases q : i = n
    · have e : hn B f n = hn B g n := hn_congr (fun j hj => h1 j (by omega))
      rw [e, ← q]
      omega
    · have h := ih (fun j hj => hf j (by omega)) (by omega)
      have := hf n (by omega)
      have h3 : (hn B f n + 1) * B ≤ hn B g n * B := Nat.mul_le_mul_right B h
      rw [Nat.succ_mul] at h3
      omega
theorem hn_bnd {B : Nat} {f : Nat → Nat} : ∀ {n : Nat}, (∀ j, j < n → f j < B) → hn B f n < B ^ n := by
  intro n
  induction n with
  | zero => intro _; exact Nat.one_pos
  | succ n ih =>
    intro hf
    show hn B f n * B + f n < B ^ (n + 1)
    have h := ih (fun j hj => hf j (by omega))
    have := hf n (by omega)
    have h3 : (hn B f n + 1) * B ≤ B ^ n * B := Nat.mul_le_mul_right B h
    rw [Nat.succ_mul] at h3
    rw [Nat.pow_succ]
    omega
/-- the byte i of a row of words -/
def gb (f : Nat → Nat) (i : Nat) : Nat := f (i / 4) / 256 ^ (3 - i % 4) % 256
theorem gb_lt (f : Nat → Nat) (i : Nat) : gb f i < 256 := Nat.mod_lt _ (by decide)
theorem gb_congr {f g : Nat → Nat} {i : Nat} (h : f (i / 4) = g (i / 4)) : gb f i = gb g i := by
  unfold gb
  rw [h]
theorem gb_word {f : Nat → Nat} {j : Nat} (h : f j < 2 ^ 32) : f j = ((gb f (4 * j) * 256 + gb f (4 * j + 1)) * 256 + gb f (4 * j + 2)) * 256 + gb f (4 * j + 3) := by
  unfold gb
  rw [show 4 * j / 4 = j by omega, show (4 * j + 1) / 4 = j by omega, show (4 * j + 2) / 4 = j by omega, show (4 * j + 3) / 4 = j by omega, show 4 * j % 4 = 0 by omega, show (4 * j + 1) % 4 = 1 by omega, show (4 * j + 2) % 4 = 2 by omega, show (4 * j + 3) % 4 = 3 by omega]
  show f j = ((f j / 16777216 % 256 * 256 + f j / 65536 % 256) * 256 + f j / 256 % 256) * 256 + f j / 1 % 256
  omega
theorem hn_words {f : Nat → Nat} : ∀ {m : Nat}, (∀ j, j < m → f j < 2 ^ 32) → hn 256 (gb f) (4 * m) = hn (2 ^ 32) f m := by
  intro m
  induction m with
  | zero => intro _; rfl
  | succ m ih =>
    intro h
    show hn 256 (gb f) (4 * m + 3 + 1) = hn (2 ^ 32) f m * 2 ^ 32 + f m
    show (((hn 256 (gb f) (4 * m) * 256 + gb f (4 * m)) * 256 + gb f (4 * m + 1)) * 256 + gb f (4 * m + 2)) * 256 + gb f (4 * m + 3) = hn (2 ^ 32) f m * 2 ^ 32 + f m
    rw [ih (fun j hj => h j (by omega))]
    have := gb_word (h m (by omega))
    omega
theorem words_eq {f g : Nat → Nat} {m : Nat} (hf : ∀ j, j < m → f j < 2 ^ 32) (hg : ∀ j, j < m → g j < 2 ^ 32) (h : ∀ i, i < 4 * m → gb f i = gb g i) : ∀ j, j < m → f j = g j := by
  intro j hj
  rw [gb_word (hf j hj), gb_word (hg j hj), h (4 * j) (by omega), h (4 * j + 1) (by omega), h (4 * j + 2) (by omega), h (4 * j + 3) (by omega)]
/-- a word with its byte t set -/
def msk (t : Nat) : Nat := 4294967295 - 255 * 256 ^ (3 - t)
def pbw (w t v : Nat) : Nat := (w &&& msk t) ||| (v % 256 * 256 ^ (3 - t))
theorem msk_bit : ∀ t, t < 4 → ∀ j, j < 32 → (msk t).testBit j = !(decide (8 * (3 - t) ≤ j) && decide (j < 8 * (3 - t) + 8)) := by decide +kernel
theorem p256 (t : Nat) : 256 ^ t = 2 ^ (8 * t) := by
  rw [Nat.pow_mul]
theorem pbw_bit {w t v j : Nat} (ht : t < 4) (hj : j < 32) : (pbw w t v).testBit j = if 8 * (3 - t) ≤ j ∧ j < 8 * (3 - t) + 8 then v.testBit (j - 8 * (3 - t)) else w.testBit j := by
  unfold pbw
  rw [Nat.testBit_or, Nat.testBit_and, msk_bit t ht j hj, p256, Nat.testBit_mul_two_pow, show (256 : Nat) = 2 ^ 8 from rfl, Nat.testBit_mod_two_pow]
  by_cases c : 8 * (3 - t) ≤ j
  · by_cases d : j < 8 * (3 - t) + 8
    · have d' : j - 8 * (3 - t) < 8 := by omega
      rw [if_pos ⟨c, d⟩]
      simp only [c, d, d', decide_true, Bool.and_self, Bool.not_true, Bool.and_false, Bool.false_or, Bool.true_and]
    · have d' : ¬ j - 8 * (3 - t) < 8 := by omega
      rw [if_neg (fun q => d q.2)]
      simp only [d, d', decide_false, Bool.and_false, Bool.not_false, Bool.and_true, Bool.false_and, Bool.or_false]
  · rw [if_neg (fun q => c q.1)]
    simp only [c, decide_false, Bool.false_and, Bool.not_false, Bool.and_true, Bool.or_false]
theorem pbw_lt {w t v : Nat} (hw : w < 2 ^ 32) (ht : t < 4) : pbw w t v < 2 ^ 32 := by
  unfold pbw
  refine Nat.or_lt_two_pow (Nat.lt_of_le_of_lt Nat.and_le_left hw) ?_
  have h1 : v % 256 < 256 := Nat.mod_lt _ (by decide)
  have h2 : (256 : Nat) ^ (3 - t) ≤ 256 ^ 3 := Nat.pow_le_pow_right (by decide) (by omega)
  have h3 : v % 256 * 256 ^ (3 - t) ≤ 255 * 256 ^ 3 := Nat.mul_le_mul (by omega) h2
  exact Nat.lt_of_le_of_lt h3 (by decide)
theorem pbw_gb {w t v s : Nat} (ht : t < 4) (hs : s < 4) : pbw w t v / 256 ^ (3 - s) % 256 = if s = t then v % 256 else w / 256 ^ (3 - s) % 256 := by
  refine Nat.eq_of_testBit_eq (fun i => ?_)
  by_cases q : s = t
  · subst q
    rw [if_pos rfl]
    rw [p256, show (256 : Nat) = 2 ^ 8 from rfl, Nat.testBit_mod_two_pow, Nat.testBit_mod_two_pow, Nat.testBit_div_two_pow]
    by_cases c : i < 8
    · rw [pbw_bit ht (by omega), if_pos (by omega), show i + 8 * (3 - s) - 8 * (3 - s) = i by omega]
    · simp only [c, decide_false, Bool.false_and]
  · rw [if_neg q]
    rw [p256, show (256 : Nat) = 2 ^ 8 from rfl, Nat.testBit_mod_two_pow, Nat.testBit_mod_two_pow, Nat.testBit_div_two_pow, Nat.testBit_div_two_pow]
    by_cases c : i < 8
    · rw [pbw_bit ht (by omega), if_neg (by omega)]
    · simp only [c, decide_false, Bool.false_and]
theorem gb_pb {f : Nat → Nat} {i v k : Nat} : gb (va_up f (i / 4) (pbw (f (i / 4)) (i % 4) v)) k = if k = i then v % 256 else gb f k := by
  unfold gb
  by_cases q : k / 4 = i / 4
  · rw [q, va_up_self, pbw_gb (Nat.mod_lt _ (by decide)) (Nat.mod_lt _ (by decide))]
    by_cases c : k = i
    · rw [if_pos c, if_pos (by omega)]
    · rw [if_neg c, if_neg (by omega)]
  · rw [va_up_ne _ _ q, if_neg (by omega)]
theorem nI_and {a b : Nat} : nI a &&& nI b = nI (a &&& b) := by
  refine Int32.toBitVec_inj.mp ?_
  rw [Int32.toBitVec_and]
  show BitVec.ofNat 32 a &&& BitVec.ofNat 32 b = BitVec.ofNat 32 (a &&& b)
  rw [BitVec.ofNat_and]
theorem nI_mod (v : Nat) : nI v &&& 255 = nI (v % 256) := by
  have e : nI v = nI (v % 2 ^ 32) := by
    refine Int32.toBitVec_inj.mp (BitVec.eq_of_toNat_eq ?_)
    show v % 2 ^ 32 = v % 2 ^ 32 % 2 ^ 32
    omega
  rw [e, pk_andN (Nat.mod_lt _ (by decide)) 8 (by decide)]
  refine congrArg nI ?_
  omega
theorem shr2 {i : Nat} (h : i < 2 ^ 31) : nI i >>> ((2 : Int32) &&& 31) = nI (i / 4) := pk_shrN h _ 2 (by decide)
theorem and3 {i : Nat} (h : i < 2 ^ 31) : nI i &&& 3 = nI (i % 4) := pk_andN (by omega) 2 (by decide)
theorem msk_I : ∀ t, t < 4 → ((255 : Int32) <<< (((24 : Int32) - ((8 : Int32) * nI t)) &&& 31)) ^^^ (-1 : Int32) = nI (msk t) := by decide +kernel
theorem ushN {n : Nat} (hn : n < 2 ^ 32) (s : Int32) (k : Nat) (hs : ((s.toUInt32 &&& Int32.toUInt32 31).toBitVec % 32).toNat = k) : ush (nI n) s = nI (n / 2 ^ k) := pk_ushrN hn s k hs
theorem t4 {t : Nat} (h : t < 4) : t = 0 ∨ t = 1 ∨ t = 2 ∨ t = 3 := by omega
theorem shl_t {t v : Nat} (ht : t < 4) (hv : v < 256) : nI v <<< (((24 : Int32) - ((8 : Int32) * nI t)) &&& 31) = nI (v * 256 ^ (3 - t)) := by
  rcases t4 ht with rfl | rfl | rfl | rfl
  · exact pk_shlN _ 24 (by decide) (by omega)
  · exact pk_shlN _ 16 (by decide) (by omega)
  · exact pk_shlN _ 8 (by decide) (by omega)
  · exact pk_shlN _ 0 (by decide) (by omega)
theorem ush_t {t w : Nat} (ht : t < 4) (hw : w < 2 ^ 32) : ush (nI w) ((24 : Int32) - ((8 : Int32) * nI t)) = nI (w / 256 ^ (3 - t)) := by
  rcases t4 ht with rfl | rfl | rfl | rfl
  · exact ushN hw _ 24 (by decide)
  · exact ushN hw _ 16 (by decide)
  · exact ushN hw _ 8 (by decide)
  · exact ushN hw _ 0 (by decide)
theorem putByte_z (FU : Nat) (z : NSt) (a : Nat) {o i v : Nat} (h : o + i / 4 < lenF a) (hi : i < 2 ^ 31) : FF_putByte FU a (nI o) (nI i) (nI v) (up z) = some (up (zA z a (o + i / 4) (pbw (z.2 a (o + i / 4)) (i % 4) v))) := by
  have hl := lenF_lt a
  have ht : i % 4 < 4 := Nat.mod_lt _ (by decide)
  unfold FF_putByte
  rw [shr2 hi, and3 hi, nI_add, rdA_z z a h hl, Option.bind_some, msk_I _ ht, nI_mod, shl_t ht (Nat.mod_lt _ (by decide)), nI_and, nI_or, wrA_z z a h hl, Option.bind_some]
  rfl
theorem getByte_z (FU : Nat) (z : NSt) (a : Nat) {o i : Nat} (h : o + i / 4 < lenF a) (hi : i < 2 ^ 31) (hw : z.2 a (o + i / 4) < 2 ^ 32) : FF_getByte FU a (nI o) (nI i) (up z) = some (nI (gb (fun j => z.2 a (o + j)) i)) := by
  have hl := lenF_lt a
  have ht : i % 4 < 4 := Nat.mod_lt _ (by decide)
  unfold FF_getByte
  rw [shr2 hi, and3 hi, nI_add, rdA_z z a h hl, Option.bind_some, ush_t ht hw, nI_mod]
  rfl
/-! the hash of a name -/
def hsI (f : Nat → Nat) : Nat → Int32
  | 0 => 17
  | i + 1 => ((hsI f i ^^^ nI (f i)) * (-1640531535 : Int32)) ^^^ (ush ((hsI f i ^^^ nI (f i)) * (-1640531535 : Int32)) (15 : Int32))
def hashN (f : Nat → Nat) : Nat := (hsI f 5).toBitVec.toNat / 4096
theorem hashN_lt (f : Nat → Nat) : hashN f < 2 ^ 20 := by
  unfold hashN
  have := (hsI f 5).toBitVec.isLt
  omega
theorem hsI_congr {f g : Nat → Nat} : ∀ {n : Nat}, (∀ i, i < n → f i = g i) → hsI f n = hsI g n := by
  intro n
  induction n with
  | zero => intro _; rfl
  | succ n ih =>
    intro h
    unfold hsI
    rw [ih (fun i hi => h i (by omega)), h n (by omega)]
theorem hashN_congr {f g : Nat → Nat} (h : ∀ i, i < 5 → f i = g i) : hashN f = hashN g := by
  unfold hashN
  rw [hsI_congr h]
theorem nI_self (x : Int32) : nI x.toBitVec.toNat = x := by
  refine Int32.toBitVec_inj.mp (BitVec.eq_of_toNat_eq ?_)
  rw [pk_tn x.toBitVec.isLt]
theorem hashOf_b (FU : Nat) (z : NSt) (a o : Nat) (ho : o + 5 ≤ lenF a) : ∀ (m i n : Nat), i + m = 5 → m < n → FF_hashOf_b5 FU a n (nI o) (hsI (fun j => z.2 a (o + j)) i) (nI i) (up z) = some (nI (hashN (fun j => z.2 a (o + j)))) := by
  have hl := lenF_lt a
  intro m
  induction m with
  | zero =>
    intro i n h1 h2
    obtain ⟨n, rfl⟩ : ∃ q9, n = q9 + 1 := ⟨n - 1, by omega⟩
    have h1 : i = 5 := h1
    subst h1
    unfold FF_hashOf_b5
    simp (disch := omega) only [lit_nI, nI_ltI, nI_leI, nI_eq, nI_add, pk_sub, pk_div, nI_64, rdA_z, wrA_z, cpy_z, up1, up_I, nz_n0, nz_n1, zI1, zI2, zR1, zR2, zA1, zA2, Option.bind_some, nx_eq, if_true, if_false, if_pos, if_neg]
    rw [← nI_self (hsI (fun j => z.2 a (o + j)) 5), ushN (hsI (fun j => z.2 a (o + j)) 5).toBitVec.isLt _ 12 (by decide)]
    rfl
  | succ m ih =>
    intro i n h1 h2
    obtain ⟨n, rfl⟩ : ∃ q9, n = q9 + 1 := ⟨n - 1, by omega⟩
    unfold FF_hashOf_b5
    rw [show (5 : Int32) = nI 5 from rfl, if_neg (nI_ge (by omega) (by omega)), nI_add, rdA_z z a (by omega) hl, Option.bind_some, nI_1]
    exact ih (i + 1) n (by omega) (by omega)
theorem hashOf_z {FU : Nat} (hF : 6 < FU) (z : NSt) (a : Nat) {o : Nat} (ho : o + 5 ≤ lenF a) : FF_hashOf FU a (nI o) (up z) = some (nI (hashN (fun j => z.2 a (o + j)))) :=
  hashOf_b FU z a o ho 5 0 FU (by omega) (by omega)
theorem or_pl {h p : Nat} (hp : p < 4096) : h * 4096 ||| p = h * 4096 + p := by
  have := Nat.two_pow_add_eq_or_of_lt (i := 12) hp h
  rw [show (2 : Nat) ^ 12 = 4096 from rfl] at this
  rw [Nat.mul_comm]
  exact this.symm
theorem slot_I {h p : Nat} (hh : h < 2 ^ 20) (hp : p < 4096) : (nI h <<< ((12 : Int32) &&& 31)) ||| nI p = nI (h * 4096 + p) := by
  rw [pk_shlN _ 12 (by decide) (by omega), nI_or]
  exact congrArg nI (or_pl hp)
theorem and4095 {w : Nat} (h : w < 2 ^ 32) : nI w &&& (4095 : Int32) = nI (w % 4096) := pk_andN h 12 (by decide)
theorem ush12 {w : Nat} (h : w < 2 ^ 32) : ush (nI w) (12 : Int32) = nI (w / 4096) := ushN h _ 12 (by decide)
theorem i00 : nI 0 = (0 : Int32) := rfl
theorem i11 : nI 1 = (1 : Int32) := rfl
theorem i47 : nI 47 = (47 : Int32) := rfl
theorem ne47 {x : Nat} (hx : x < 2 ^ 31) (h : x ≠ 47) : ¬ nI x = (47 : Int32) := fun q => h ((nI_eq hx (by decide)).mp q)
