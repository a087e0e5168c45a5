/-! layer 2: the functions over numbers -/
theorem lit_nI (n : Nat) : (OfNat.ofNat n : Int32) = nI (OfNat.ofNat n) := id rfl
def Ev {α : Type} (o : Option α) (Q : α → Prop) : Prop := ∃ a, o = some a ∧ Q a
theorem Ev.ret {α : Type} {a : α} {Q : α → Prop} (h : Q a) : Ev (some a) Q := ⟨a, rfl, h⟩
theorem Ev.bd {α β : Type} {o : Option α} {f : α → Option β} {P : α → Prop} {Q : β → Prop} (h : Ev o P) (k : ∀ a, P a → Ev (f a) Q) : Ev (o.bind f) Q := by
  obtain ⟨a, rfl, hp⟩ := h
  exact k a hp
theorem Ev.mono {α : Type} {o : Option α} {P Q : α → Prop} (h : Ev o P) (k : ∀ a, P a → Q a) : Ev o Q := by
  obtain ⟨a, e, hp⟩ := h
  exact ⟨a, e, k a hp⟩
theorem Ev.eqn {α : Type} {o : Option α} {a : α} {Q : α → Prop} (h : o = some a) (k : Q a) : Ev o Q := ⟨a, h, k⟩
theorem bd_eq {α β : Type} {o : Option α} {a : α} {f : α → Option β} {r : Option β} (h : o = some a) (k : f a = r) : o.bind f = r := by
  subst h
  exact k
theorem ite_t {α : Type} {c : Prop} [Decidable c] {a b r : α} (hc : c) (h : a = r) : (if c then a else b) = r := by rw [if_pos hc]; exact h
theorem ite_f {α : Type} {c : Prop} [Decidable c] {a b r : α} (hc : ¬ c) (h : b = r) : (if c then a else b) = r := by rw [if_neg hc]; exact h
/-- one cell, one row -/
def stA (g : St) (a i : Nat) (v : Int32) : St := setR g a (upd (g.2 a) i v)
theorem setA_n (g : St) (a : Nat) {i : Nat} (v : Int32) (h : i < 2 ^ 31) : setA g a (nI i) v = stA g a i v := by
  unfold setA stA setR
  rw [nI_clamp h]
theorem rdA_n {n i : Nat} (g : St) (a : Nat) (h : i < n) (hn : n < 2 ^ 31) : rdA n g a (nI i) = some (g.2 a i) := by
  unfold rdA
  rw [nI_clamp (by omega), if_neg (by
    rintro (h9 | h9)
    · exact nI_pos (by omega) h9
    · omega)]
theorem wrA_n {n i : Nat} (g : St) (a : Nat) (v : Int32) (h : i < n) (hn : n < 2 ^ 31) : wrA n g a (nI i) v = some (stA g a i v) := by
  unfold wrA
  rw [nI_clamp (by omega), if_neg (by
    rintro (h9 | h9)
    · exact nI_pos (by omega) h9
    · omega), setA_n g a v (by omega)]
theorem cpy_n {na nb sp dp n : Nat} (g : St) (a b : Nat) (h1 : sp + n ≤ na) (h2 : dp + n ≤ nb) (ha : na < 2 ^ 31) (hb : nb < 2 ^ 31) : cpy na nb g a (nI sp) b (nI dp) (nI n) = some (setR g b (va_cpy (g.2 a) (g.2 b) sp dp n)) := by
  unfold cpy
  rw [nI_clamp (by omega), nI_clamp (by omega), nI_clamp (by omega), if_neg (by
    rintro (h9 | h9 | h9 | h9 | h9)
    · exact nI_pos (by omega) h9
    · exact nI_pos (by omega) h9
    · exact nI_pos (by omega) h9
    · omega
    · omega)]
theorem nx_eq {α β : Type} (a : α) (f : α → Option β) : nx a f = f a := rfl
theorem setR1 (g : St) (a : Nat) (F : Nat → Int32) : (setR g a F).1 = g.1 := rfl
theorem setR2 (g : St) (a b : Nat) (F : Nat → Int32) : (setR g a F).2 b = if b = a then F else g.2 b := rfl
theorem setR2s (g : St) (a : Nat) (F : Nat → Int32) : (setR g a F).2 a = F := if_pos rfl
theorem setR2n (g : St) {a b : Nat} (F : Nat → Int32) (h : b ≠ a) : (setR g a F).2 b = g.2 b := if_neg h
theorem setI2 (g : St) (k : Nat) (v : Int32) : (setI g k v).2 = g.2 := rfl
theorem setI1 (g : St) (k j : Nat) (v : Int32) : (setI g k v).1 j = if j = k then v else g.1 j := rfl
theorem setI1s (g : St) (k : Nat) (v : Int32) : (setI g k v).1 k = v := if_pos rfl
theorem setI1n (g : St) {k j : Nat} (v : Int32) (h : j ≠ k) : (setI g k v).1 j = g.1 j := if_neg h
theorem stA1 (g : St) (a i : Nat) (v : Int32) : (stA g a i v).1 = g.1 := rfl
theorem stA2 (g : St) (a i b j : Nat) (v : Int32) : (stA g a i v).2 b j = if b = a ∧ j = i then v else g.2 b j := by
  unfold stA
  rw [setR2]
  by_cases h : b = a
  · subst h
    rw [if_pos rfl]
    unfold upd
    by_cases hj : j = i
    · rw [if_pos hj, if_pos ⟨rfl, hj⟩]
    · rw [if_neg hj, if_neg (fun z => hj z.2)]
  · rw [if_neg h, if_neg (fun z => h z.1)]
theorem stA2s (g : St) (a i : Nat) (v : Int32) : (stA g a i v).2 a = upd (g.2 a) i v := if_pos rfl
theorem stA2n (g : St) {a b : Nat} (i : Nat) (v : Int32) (h : b ≠ a) : (stA g a i v).2 b = g.2 b := if_neg h
theorem setR_self (g : St) (a : Nat) : setR g a (g.2 a) = g := by
  unfold setR
  refine Prod.ext rfl (funext fun b => ?_)
  show va_up g.2 a (g.2 a) b = g.2 b
  unfold va_up
  split
  · rename_i h; rw [h]
  · rfl
theorem setR_setR (g : St) (a : Nat) (F G : Nat → Int32) : setR (setR g a F) a G = setR g a G := by
  refine Prod.ext rfl (funext fun b => ?_)
  show va_up (va_up g.2 a F) a G b = va_up g.2 a G b
  unfold va_up
  split <;> rfl
theorem setI_setI (g : St) (k : Nat) (v w : Int32) : setI (setI g k v) k w = setI g k w := by
  refine Prod.ext (funext fun j => ?_) rfl
  show upd (upd g.1 k v) k w j = upd g.1 k w j
  unfold upd
  split <;> rfl
/-- a row with v from lo up to hi -/
def flR (f : Nat → Int32) (lo hi : Nat) (v : Int32) : Nat → Int32 := fun j => if lo ≤ j ∧ j < hi then v else f j
theorem flR_e (f : Nat → Int32) (lo : Nat) (v : Int32) : flR f lo lo v = f := by
  funext j
  unfold flR
  rw [if_neg (by omega)]
theorem flR_s (f : Nat → Int32) {lo hi : Nat} (v : Int32) (h : lo < hi) : flR (upd f lo v) (lo + 1) hi v = flR f lo hi v := by
  funext j
  unfold flR upd
  by_cases h1 : j = lo
  · rw [if_neg (by omega), if_pos h1, if_pos (by omega)]
  · by_cases h2 : lo + 1 ≤ j ∧ j < hi
    · rw [if_pos h2, if_pos (by omega)]
    · rw [if_neg h2, if_neg h1, if_neg (by omega)]
theorem lenF_lt (a : Nat) : lenF a < 2 ^ 31 := by
  unfold lenF
  split <;> decide
theorem fill1_b (FU a : Nat) (v : Int32) (N : Nat) (hN : N ≤ lenF a) : ∀ (m i n : Nat) (g : St), i + m = N → m < n → Arr_fill_1_b10 FU a n (nI N) v (nI i) g = some (setR g a (flR (g.2 a) i N v)) := by
  have hl := lenF_lt a
  intro m
  induction m with
  | zero =>
    intro i n g h1 h2
    obtain ⟨n, rfl⟩ : ∃ z, n = z + 1 := ⟨n - 1, by omega⟩
    have h1 : i = N := h1
    subst h1
    unfold Arr_fill_1_b10
    rw [if_pos (nI_le (Nat.le_refl _) (by omega)), flR_e, setR_self]
  | succ m ih =>
    intro i n g h1 h2
    obtain ⟨n, rfl⟩ : ∃ z, n = z + 1 := ⟨n - 1, by omega⟩
    unfold Arr_fill_1_b10
    rw [if_neg (nI_ge (by omega) (by omega)), wrA_n g a v (by omega) hl]
    show Arr_fill_1_b10 FU a n (nI N) v (nI i + 1) (stA g a i v) = _
    rw [nI_1, ih (i + 1) n _ (by omega) (by omega), stA2s]
    unfold stA
    rw [setR_setR, flR_s _ _ (by omega)]
theorem fill1_e {FU : Nat} (a : Nat) {lo hi : Nat} (v : Int32) (g : St) (h1 : lo ≤ hi) (h2 : hi ≤ lenF a) (hF : hi < FU) : Arr_fill_1 FU a (nI lo) (nI hi) v g = some (setR g a (flR (g.2 a) lo hi v)) := by
  have hl := lenF_lt a
  unfold Arr_fill_1 Arr_rangeCheck
  rw [if_pos (nI_le h1 (by omega)), if_pos (nI_pos' (by omega)), if_pos (nI_le h2 hl)]
  exact fill1_b FU a v hi h2 (hi - lo) lo FU g (by omega) (by omega)
theorem fill0_b (FU a : Nat) (v : Int32) (N : Nat) (hN : N ≤ lenF a) : ∀ (m i n : Nat) (g : St), i + m = N → m < n → Arr_fill_0_b5 FU a n v (nI i) (nI N) g = some (setR g a (flR (g.2 a) i N v)) := by
  have hl := lenF_lt a
  intro m
  induction m with
  | zero =>
    intro i n g h1 h2
    obtain ⟨n, rfl⟩ : ∃ z, n = z + 1 := ⟨n - 1, by omega⟩
    have h1 : i = N := h1
    subst h1
    unfold Arr_fill_0_b5
    rw [if_pos (nI_le (Nat.le_refl _) (by omega)), flR_e, setR_self]
  | succ m ih =>
    intro i n g h1 h2
    obtain ⟨n, rfl⟩ : ∃ z, n = z + 1 := ⟨n - 1, by omega⟩
    unfold Arr_fill_0_b5
    rw [if_neg (nI_ge (by omega) (by omega)), wrA_n g a v (by omega) hl]
    show Arr_fill_0_b5 FU a n v (nI i + 1) (nI N) (stA g a i v) = _
    rw [nI_1, ih (i + 1) n _ (by omega) (by omega), stA2s]
    unfold stA
    rw [setR_setR, flR_s _ _ (by omega)]
theorem fill0_e {FU : Nat} (a : Nat) (v : Int32) (g : St) (hF : lenF a < FU) : Arr_fill_0 FU a v g = some (setR g a (flR (g.2 a) 0 (lenF a) v)) :=
  fill0_b FU a v (lenF a) (Nat.le_refl _) (lenF a) 0 FU g (by omega) hF
theorem nI_64 (b : Nat) : nI b * nI 64 = nI (64 * b) := by rw [pk_mul, Nat.mul_comm]
theorem nI_inj {a b : Nat} (ha : a < 2 ^ 32) (hb : b < 2 ^ 32) : nI a = nI b ↔ a = b := by
  constructor
  · intro h
    have h1 : (nI a).toBitVec.toNat = (nI b).toBitVec.toNat := by rw [h]
    rwa [pk_tn ha, pk_tn hb] at h1
  · intro h
    rw [h]
/-! states over numbers -/
abbrev NSt : Type := (Nat → Nat) × (Nat → Nat → Nat)
def up (z : NSt) : St := (fun k => nI (z.1 k), fun a i => nI (z.2 a i))
def zI (z : NSt) (k v : Nat) : NSt := (va_up z.1 k v, z.2)
def zR (z : NSt) (a : Nat) (F : Nat → Nat) : NSt := (z.1, va_up z.2 a F)
def zA (z : NSt) (a i v : Nat) : NSt := zR z a (va_up (z.2 a) i v)
theorem up1 (z : NSt) (k : Nat) : (up z).1 k = nI (z.1 k) := id rfl
theorem up2 (z : NSt) (a i : Nat) : (up z).2 a i = nI (z.2 a i) := rfl
theorem up2f (z : NSt) (a : Nat) : (up z).2 a = fun i => nI (z.2 a i) := rfl
theorem up_I (z : NSt) (k v : Nat) : setI (up z) k (nI v) = up (zI z k v) := by
  refine Prod.ext (funext fun j => ?_) rfl
  show (if j = k then nI v else nI (z.1 j)) = nI (if j = k then v else z.1 j)
  split <;> rfl
theorem up_R (z : NSt) (a : Nat) (F : Nat → Nat) : setR (up z) a (fun j => nI (F j)) = up (zR z a F) := by
  refine Prod.ext rfl (funext fun b => funext fun i => ?_)
  show (if b = a then (fun j => nI (F j)) else (fun j => nI (z.2 b j))) i = nI ((if b = a then F else z.2 b) i)
  split <;> rfl
theorem up_A (z : NSt) (a i v : Nat) : stA (up z) a i (nI v) = up (zA z a i v) := by
  unfold stA zA
  rw [← up_R]
  congr 1
  funext j
  show (if j = i then nI v else nI (z.2 a j)) = nI (if j = i then v else z.2 a j)
  split <;> rfl
theorem up_cpy (z : NSt) (a b sp dp n : Nat) : setR (up z) b (va_cpy ((up z).2 a) ((up z).2 b) sp dp n) = up (zR z b (va_cpy (z.2 a) (z.2 b) sp dp n)) := by
  rw [← up_R]
  congr 1
  funext j
  show (if dp ≤ j ∧ j < dp + n then nI (z.2 a (sp + (j - dp))) else nI (z.2 b j)) = nI (if dp ≤ j ∧ j < dp + n then z.2 a (sp + (j - dp)) else z.2 b j)
  split <;> rfl
def flN (f : Nat → Nat) (lo hi v : Nat) : Nat → Nat := fun j => if lo ≤ j ∧ j < hi then v else f j
theorem up_fl (z : NSt) (a lo hi v : Nat) : setR (up z) a (flR ((up z).2 a) lo hi (nI v)) = up (zR z a (flN (z.2 a) lo hi v)) := by
  rw [← up_R]
  congr 1
  funext j
  show (if lo ≤ j ∧ j < hi then nI v else nI (z.2 a j)) = nI (if lo ≤ j ∧ j < hi then v else z.2 a j)
  split <;> rfl
theorem up_of (g : St) : ∃ z : NSt, g = up z := ⟨(fun k => (g.1 k).toBitVec.toNat, fun a i => (g.2 a i).toBitVec.toNat), by
  have h : ∀ x : Int32, x = nI x.toBitVec.toNat := by
    intro x
    refine Int32.toBitVec_inj.mp (BitVec.eq_of_toNat_eq ?_)
    rw [pk_tn x.toBitVec.isLt]
  exact Prod.ext (funext fun k => h _) (funext fun a => funext fun i => h _)⟩
theorem zI1 (z : NSt) (k j v : Nat) : (zI z k v).1 j = if j = k then v else z.1 j := rfl
theorem zI2 (z : NSt) (k v : Nat) : (zI z k v).2 = z.2 := rfl
theorem zR1 (z : NSt) (a : Nat) (F : Nat → Nat) : (zR z a F).1 = z.1 := rfl
theorem zR2 (z : NSt) (a b : Nat) (F : Nat → Nat) : (zR z a F).2 b = if b = a then F else z.2 b := rfl
theorem zA1 (z : NSt) (a i v : Nat) : (zA z a i v).1 = z.1 := rfl
theorem zA2 (z : NSt) (a i v b : Nat) : (zA z a i v).2 b = if b = a then va_up (z.2 a) i v else z.2 b := rfl
theorem fill0_z {FU : Nat} (a v : Nat) (z : NSt) (hF : lenF a < FU) : Arr_fill_0 FU a (nI v) (up z) = some (up (zR z a (flN (z.2 a) 0 (lenF a) v))) := by
  rw [fill0_e a (nI v) (up z) hF, up_fl]
theorem fill1_z {FU : Nat} (a v : Nat) {lo hi : Nat} (z : NSt) (h1 : lo ≤ hi) (h2 : hi ≤ lenF a) (hF : hi < FU) : Arr_fill_1 FU a (nI lo) (nI hi) (nI v) (up z) = some (up (zR z a (flN (z.2 a) lo hi v))) := by
  rw [fill1_e a (nI v) (up z) h1 h2 hF, up_fl]
theorem rdA_z {n i : Nat} (z : NSt) (a : Nat) (h : i < n) (hn : n < 2 ^ 31) : rdA n (up z) a (nI i) = some (nI (z.2 a i)) := rdA_n (up z) a h hn
theorem wrA_z {n i v : Nat} (z : NSt) (a : Nat) (h : i < n) (hn : n < 2 ^ 31) : wrA n (up z) a (nI i) (nI v) = some (up (zA z a i v)) := by
  rw [wrA_n (up z) a (nI v) h hn, up_A]
theorem cpy_z {na nb sp dp n : Nat} (z : NSt) (a b : Nat) (h1 : sp + n ≤ na) (h2 : dp + n ≤ nb) (ha : na < 2 ^ 31) (hb : nb < 2 ^ 31) : cpy na nb (up z) a (nI sp) b (nI dp) (nI n) = some (up (zR z b (va_cpy (z.2 a) (z.2 b) sp dp n))) := by
  rw [cpy_n (up z) a b h1 h2 ha hb, up_cpy]
theorem nz_0 : nz 0 = nI 0 := by decide
theorem nz_1 : nz 1 = nI 1 := by decide
theorem nz_n0 : nz (nI 0) = nI 0 := by decide
theorem nz_n1 : nz (nI 1) = nI 1 := by decide
/-! the device -/
def zW (z : NSt) (b i : Nat) : Nat := z.2 4 (64 * b + i)
theorem Dev_word_z (FU : Nat) (z : NSt) {b i : Nat} (hb : b < 2 ^ 31) (hi : i < 2 ^ 31) : Dev_word FU (nI b) (nI i) (up z) = some (nI (if b < 2117 ∧ i < 64 then zW z b i else 0)) := by
  unfold Dev_word
  by_cases h1 : b < 2117
  · by_cases h2 : i < 64
    · simp (disch := omega) only [lit_nI, nI_ltI, nI_leI, nI_64, nI_add, rdA_z, Option.bind_some, if_pos, if_neg]
      rfl
    · simp (disch := omega) only [lit_nI, nI_ltI, nI_leI, if_pos, if_neg]
  · simp (disch := omega) only [lit_nI, nI_ltI, nI_leI, if_pos, if_neg]
theorem Dev_word_e (FU : Nat) (z : NSt) {b i : Nat} (hb : b < 2117) (hi : i < 64) : Dev_word FU (nI b) (nI i) (up z) = some (nI (zW z b i)) := by
  rw [Dev_word_z FU z (by omega) (by omega), if_pos ⟨hb, hi⟩]
theorem Dev_isWritten_e (FU : Nat) (z : NSt) {b : Nat} (hb : b < 2117) : Dev_isWritten FU (nI b) (up z) = some (if nI (z.2 5 b) = nI 0 then nI 0 else nI 1) := by
  unfold Dev_isWritten
  simp (disch := omega) only [lit_nI, nI_ltI, nI_leI, rdA_z, Option.bind_some, if_pos, if_neg]
  by_cases h : nI (z.2 5 b) = nI 0
  · rw [if_pos h, if_pos h]
  · rw [if_neg h, if_neg h]
theorem Dev_load_e (FU : Nat) (z : NSt) (a : Nat) {b : Nat} (hb : b < 2117) (ha : 64 ≤ lenF a) : Dev_load FU a (nI b) (up z) = some (up (zR z a (va_cpy (z.2 4) (z.2 a) (64 * b) 0 64))) := by
  have hl := lenF_lt a
  unfold Dev_load
  simp (disch := omega) only [lit_nI, nI_ltI, nI_leI, nI_64, cpy_z, Option.bind_some, if_pos, if_neg]
/-- what a block is behind a program: its words, and that it is written -/
def prg (z : NSt) (a b k : Nat) : NSt := zA (zR z 4 (va_cpy (z.2 a) (z.2 4) k (64 * b) 64)) 5 b 1
theorem Dev_program_e (FU : Nat) (z : NSt) (a : Nat) {b k : Nat} (hb : b < 2117) (hk : k + 64 ≤ lenF a) (hw : z.2 5 b = 0) : Dev_program FU a (nI b) (nI k) (up z) = some (up (prg z a b k)) := by
  have hl := lenF_lt a
  have key : Dev_program_b44 FU a (nI b) (nI k) (up z) = some (up (prg z a b k)) := by
    unfold Dev_program_b44
    simp (disch := omega) only [lit_nI, nI_64, cpy_z, nz_n1, wrA_z, Option.bind_some]
    rfl
  unfold Dev_program
  simp (disch := omega) only [lit_nI, nI_ltI, nI_leI, pk_sub, rdA_z, Option.bind_some, nx_eq, key, hw, if_true, if_false, if_pos, if_neg]
