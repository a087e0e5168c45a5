/-! the class: clean, name -/
theorem LG.f7b {z : NSt} (h : LG z) : z.1 7 ≤ 128 := by
  rw [h.1.2.2.2.1.2]
  have := sm_bnd (f := z.2 12) (n := 128) (c := 1) (fun i _ => by
    by_cases q : z.2 12 i = 0
    · omega
    · have := (h.1.2.2.2.1.1 i q).1
      omega)
  omega
theorem cst_congr {z a : NSt} (h : ∀ c, c ≠ 19 → a.2 c = z.2 c) (s : Nat) : cst a s = cst z s := by
  unfold cst
  rw [h 10 (by decide), h 11 (by decide)]
theorem clean_s {FU : Nat} (hF : 140000 < FU) {z : NSt} {A : AB} {PP : Nat → Nat} {ch : List Nat} (hc : FIC z A) (h : FIN z A 0 PP ch) (hA : AI A 0) (htk : A.tk ≤ 3000) (hdv : A.dv = 2) :
    Ev (Chk_cleanWithin FU (up z)) fun r => ∃ y, r = up y ∧ FI y A := by
  have hrb := hA.rb
  have hfr := h.us_lt hA
  have hus := h.u28
  have e16 := h.s16
  have e17 := h.s17
  have e18 := h.s18
  have h7 := h.nw.wk.lg.f7b
  have hu := h.uz
  have hlo := Uz_lo z
  have hmb : mbf z ≤ 130 ∧ 10 ≤ mbf z ∧ 16 * mbf z ≥ A.rm - A.us - A.fr + 160 := by
    unfold mbf
    rw [e16, e17, e18]
    omega
  unfold Chk_cleanWithin Log_freeSegments
  rw [Option.bind_some, Chk_mustBeFree_g FU (by omega) (by omega) (by omega), Option.bind_some, up1]
  have same : Ev (some (up z)) fun r => ∃ y, r = up y ∧ FI y A := Ev.ret ⟨z, rfl, FI.mk hc hdv h⟩
  by_cases q : mbf z + 2 < z.1 7
  · have e : nI (z.1 7) - nI (mbf z) - (2 : Int32) = nI (z.1 7 - mbf z - 2) := by
      rw [show (2 : Int32) = nI 2 from rfl, pk_sub (by omega), pk_sub (by omega)]
    rw [e, if_neg (show ¬ nI (z.1 7 - mbf z - 2) ≤ (0 : Int32) from fun w => by
      rw [show (0 : Int32) = nI 0 from rfl, nI_leI (by omega) (by decide)] at w
      omega), show (16 : Int32) * nI (z.1 7 - mbf z - 2) = nI (16 * (z.1 7 - mbf z - 2)) from pk_mul 16 _]
    refine (emptySegments_s hF h.nw (h.se32 htk) (most := 16 * (z.1 7 - mbf z - 2)) (dr := 8) (by omega) (by decide) (by omega)).bd ?_
    rintro _ (⟨x, rfl, x1, x2, x3, -⟩ | ⟨a, y, ch', left, rfl, a1, a2, a3⟩)
    · refine Ev.ret ⟨x, rfl, FI.mk (hc.frame (fun k _ => by rw [x2]) (fun c hc => x3 c (by omega)) x1.fic) hdv (h.rows2 (fun k _ _ => by rw [x2]) (fun c _ hc => x3 c (by omega)) x1.fic.1 rfl rfl rfl rfl rfl rfl rfl rfl rfl)⟩
    · have hcs := cost_sum a1
      rw [sm_congr (f := fun s => if a.2 19 s ≠ 0 then cst a s else 0) (g := fun s => if a.2 19 s ≠ 0 then cst z s else 0) (fun s _ => by rw [cst_congr a2.ar])] at hcs
      have hsum := a2.sum
      have huz := a3.uz
      have hUa : Uz a = Uz z := Uz_frame (fun k _ _ => by rw [a2.s1])
      have fr : FR z y := FR.trans ⟨fun k _ _ _ _ _ _ _ _ => by rw [a2.s1], fun c hc => a2.ar c (by omega)⟩ a3.fr
      have hkc : KC y = KC z := by rw [KC_congr a3.a7]; exact KC_congr (a2.ar 7 (by decide))
      have e : ∀ k, 16 ≤ k ∨ k = 11 ∨ k = 6 → y.1 k = z.1 k := fun k hk => fr.1 k (by omega) (by omega) (by omega) (by omega) (by omega) (by omega) (by omega) (by omega)
      obtain ⟨k1, k2⟩ := h.kc
      refine Ev.ret ⟨y, rfl, FI.mk (hc.frame (fun k hk => fr.1 k (by omega) (by omega) (by omega) (by omega) (by omega) (by omega) (by omega) (by omega)) (fun c hc => fr.2 c (by omega)) a3.nw.fic) hdv (PP := PP) (ch := ch') ⟨a3.nw, h.pi, fun f hf => by rw [a3.a8, a2.ar 8 (by decide)]; exact h.st f hf, ?_, ?_, ?_, ?_, ?_, ⟨?_, ?_⟩, ?_, ?_, h.u28⟩⟩
      · rw [e 16 (by omega)]; exact e16
      · rw [e 17 (by omega)]; exact e17
      · rw [e 18 (by omega)]; exact e18
      · rw [e 19 (by omega)]; exact h.s19
      · omega
      · rw [hkc]; exact k1
      · rw [hkc]; exact k2
      · rw [e 11 (by omega)]; exact h.se
      · rw [e 6 (by omega)]; exact h.rs
  · rw [if_pos (show nI (z.1 7) - nI (mbf z) - (2 : Int32) ≤ 0 by
      have e : nI (z.1 7) - nI (mbf z) - (2 : Int32) = nI (z.1 7) - nI (mbf z + 2) := by
        rw [show nI (mbf z + 2) = nI (mbf z) + 2 from (nI_add _ 2).symm]
        refine Int32.toBitVec_inj.mp ?_
        simp only [Int32.toBitVec_sub, Int32.toBitVec_add]
        rw [BitVec.sub_sub]
      rw [e, Int32.le_iff_toInt_le, pk_sub_toInt (by omega) (by omega)]
      show _ ≤ (0 : Int)
      omega)]
    exact same
theorem cl_clean {FU : Nat} (hF : 140000 < FU) {z : NSt} {A : AB} (h : FI z A) (hA : AI A 0) (htk : A.tk ≤ 2000) : Ans (FF_clean FU (up z)) (cleanA A) := by
  unfold cleanA
  by_cases c : A.dv = 2
  · rw [pwrA_yes c]
    obtain ⟨hc, PP, ch, hfi⟩ := h.on c
    unfold FF_clean
    rw [pwr_yes FU hc c, Option.bind_some, if_pos (show (0 : Nat) = 0 from rfl)]
    refine (clean_s hF hc hfi hA (by omega) c).bd ?_
    rintro _ ⟨y, rfl, y1⟩
    exact Ev.ret ⟨y, rfl, y1⟩
  · rw [pwrA_no c]
    unfold FF_clean
    rw [pwr_no FU h c, Option.bind_some, if_neg (show ¬ (2 : Nat) = 0 by decide)]
    exact Ans.no h 2
/-! names by their numbers -/
theorem hn_div {f : Nat → Nat} (h : ∀ i, f i < 256) : ∀ n m, hn 256 f (n + m) / 256 ^ m = hn 256 f n := by
  intro n m
  induction m with
  | zero => rw [Nat.add_zero, Nat.pow_zero, Nat.div_one]
  | succ m ih =>
    rw [Nat.pow_succ, Nat.mul_comm (256 ^ m) 256, ← Nat.div_div_eq_div_mul, ← ih]
    have : hn 256 f (n + (m + 1)) = hn 256 f (n + m) * 256 + f (n + m) := rfl
    rw [this]
    have := h (n + m)
    congr 1
    omega
theorem hn_dig {f : Nat → Nat} (h : ∀ i, f i < 256) {i : Nat} (hi : i < 20) : hn 256 f 20 / 256 ^ (19 - i) % 256 = f i := by
  have e : 20 = (i + 1) + (19 - i) := by omega
  have := hn_div h (i + 1) (19 - i)
  rw [← e] at this
  rw [this]
  show (hn 256 f i * 256 + f i) % 256 = f i
  have := h i
  omega
theorem nm_dig {f : Nat → Nat} (h : ∀ i, i < 20 → f i < 256) {i : Nat} (hi : i < 20) : nmB (hn 256 f 20) i = f i := by
  unfold nmB
  rw [hn_congr (g := fun i => if i < 20 then f i else 0) (fun j hj => by rw [if_pos hj]), hn_dig (fun j => by
    show (if j < 20 then f j else 0) < 256
    split
    · exact h j (by assumption)
    · decide) hi, if_pos hi]
theorem NL.dig {n l : Nat} (h : NL n l) {i : Nat} (hi : i < 20) : nmB n i < 256 ∧ (nmB n i ≠ 0 ↔ i < l) := by
  obtain ⟨-, -, f, rfl, hf⟩ := h
  rw [nm_dig (fun i hi => (hf i hi).1) hi]
  exact hf i hi
theorem sm_lt (l : Nat) : ∀ n, l ≤ n → sm (fun i => if i < l then 1 else 0) n = l := by
  intro n hl
  obtain ⟨m, rfl⟩ : ∃ m, n = l + m := ⟨n - l, by omega⟩
  rw [sm_cut, sm_congr (g := fun _ => 1) (fun i hi => if_pos hi), sm_const, sm_zero (fun i _ => if_neg (by omega))]
  omega
theorem NL.len {n l : Nat} (h : NL n l) : nmL n = l := by
  unfold nmL
  rw [sm_congr (g := fun i => if i < l then 1 else 0) (fun i hi => by
    have := (h.dig hi).2
    by_cases c : i < l
    · rw [if_pos c, if_neg (this.mpr c)]
    · rw [if_neg c, if_pos (Classical.byContradiction (fun w => c (this.mp w)))])]
  exact sm_lt l 20 h.2.1
theorem rnk_mono (e : Nat → Nat) (n : Nat) : ∀ m, rnk e n ≤ rnk e (n + m) := by
  intro m
  unfold rnk
  rw [sm_cut]
  omega
theorem rnk_lt {e : Nat → Nat} {n m : Nat} (hn : e n ≠ 0) (h : n < m) : rnk e n < rnk e m := by
  obtain ⟨k, rfl⟩ : ∃ k, m = (n + 1) + k := ⟨m - (n + 1), by omega⟩
  have h1 := rnk_mono e (n + 1) k
  have h2 : rnk e (n + 1) = rnk e n + (if e n = 0 then 0 else 1) := rfl
  rw [if_neg hn] at h2
  omega
theorem rnk_inj {e : Nat → Nat} {n m : Nat} (hn : e n ≠ 0) (hm : e m ≠ 0) (h : rnk e n = rnk e m) : n = m := by
  rcases Nat.lt_trichotomy n m with q | q | q
  · have := rnk_lt hn q; omega
  · exact q
  · have := rnk_lt hm q; omega
theorem nth_eq {e : Nat → Nat} {k n : Nat} (h1 : e n ≠ 0) (h2 : rnk e n = k) : ∀ N, n < N → nth e k N = n := by
  intro N
  induction N with
  | zero => intro h; omega
  | succ N ih =>
    intro h
    unfold nth
    by_cases c : n = N
    · rw [if_pos ⟨by rw [← c]; exact h1, by rw [← c]; exact h2⟩, c]
    · rw [if_neg (fun w => c (rnk_inj h1 w.1 (by rw [h2, w.2]))), ih (by omega)]
theorem nth_ex {e : Nat → Nat} {k : Nat} : ∀ N, k < rnk e N → ∃ n, n < N ∧ e n ≠ 0 ∧ rnk e n = k := by
  intro N
  induction N with
  | zero => intro h; exact absurd h (Nat.not_lt_zero _)
  | succ N ih =>
    intro h
    have h2 : rnk e (N + 1) = rnk e N + (if e N = 0 then 0 else 1) := rfl
    by_cases c : e N = 0
    · rw [if_pos c] at h2
      obtain ⟨n, a, b⟩ := ih (by omega)
      exact ⟨n, by omega, b⟩
    · rw [if_neg c] at h2
      by_cases d : rnk e N = k
      · exact ⟨N, by omega, c, d⟩
      · obtain ⟨n, a, b⟩ := ih (by omega)
        exact ⟨n, by omega, b⟩
/-! the order of two names -/
theorem nI_xor {a b : Nat} : nI a ^^^ nI b = nI (a ^^^ b) := by
  refine Int32.toBitVec_inj.mp ?_
  rw [Int32.toBitVec_xor]
  show BitVec.ofNat 32 a ^^^ BitVec.ofNat 32 b = BitVec.ofNat 32 (a ^^^ b)
  rw [BitVec.ofNat_xor]
def tpx (a : Nat) : Nat := if a < 2 ^ 31 then a + 2 ^ 31 else a - 2 ^ 31
theorem xor_top {a : Nat} (ha : a < 2 ^ 32) : a ^^^ 2 ^ 31 = tpx a := by
  have h1 : (a ^^^ 2 ^ 31) / 2 ^ 31 = (a / 2 ^ 31) ^^^ 1 := by rw [Nat.xor_div_two_pow]
  have h2 : (a ^^^ 2 ^ 31) % 2 ^ 31 = a % 2 ^ 31 := by
    rw [Nat.xor_mod_two_pow, Nat.mod_self, Nat.xor_zero]
  have h3 := Nat.div_add_mod (a ^^^ 2 ^ 31) (2 ^ 31)
  unfold tpx
  by_cases c : a < 2 ^ 31
  · rw [if_pos c]
    rw [show a / 2 ^ 31 = 0 by omega] at h1
    have h1 : (a ^^^ 2 ^ 31) / 2 ^ 31 = 1 := h1
    omega
  · rw [if_neg c]
    rw [show a / 2 ^ 31 = 1 by omega] at h1
    have h1 : (a ^^^ 2 ^ 31) / 2 ^ 31 = 0 := h1
    omega
theorem flip_I {a : Nat} (ha : a < 2 ^ 32) : nI a ^^^ (-2147483648 : Int32) = nI (tpx a) := by
  rw [show (-2147483648 : Int32) = nI (2 ^ 31) by decide, nI_xor, xor_top ha]
theorem tpx_lt {a : Nat} (ha : a < 2 ^ 32) : tpx a < 2 ^ 32 := by
  unfold tpx
  split <;> omega
theorem flip_eq {a b : Nat} (ha : a < 2 ^ 32) (hb : b < 2 ^ 32) : (nI a ^^^ (-2147483648 : Int32)) = (nI b ^^^ (-2147483648 : Int32)) ↔ a = b := by
  rw [flip_I ha, flip_I hb, nI_inj (tpx_lt ha) (tpx_lt hb)]
  unfold tpx
  constructor
  · intro h
    split at h <;> split at h <;> omega
  · intro h; rw [h]
theorem flip_le {a b : Nat} (ha : a < 2 ^ 32) (hb : b < 2 ^ 32) : (nI a ^^^ (-2147483648 : Int32)) ≤ (nI b ^^^ (-2147483648 : Int32)) ↔ a ≤ b := by
  rw [flip_I ha, flip_I hb, nI_leS (tpx_lt ha) (tpx_lt hb)]
  have e : ∀ c, c < 2 ^ 32 → sgn (tpx c) = (c : Int) - 2147483648 := fun c hc => by
    unfold tpx
    by_cases q : c < 2 ^ 31
    · rw [if_pos q, sgn_hi (by omega)]; omega
    · rw [if_neg q, sgn_lo (by omega)]; omega
  rw [e a ha, e b hb]
  omega
theorem isBefore_b (FU : Nat) {z : NSt} (hw : ∀ i, z.2 4 i < 2 ^ 32) {p q : Nat} (hp : p < 2117) (hq : q < 2117) : ∀ (m i n : Nat), i + m = 5 → m < n → (∀ j, j < i → zW z p (2 + j) = zW z q (2 + j)) → Tre_isBefore_b2 FU n (nI p) (nI q) (nI (2 + i)) (up z) = some (nI (if hn (2 ^ 32) (fun j => zW z p (2 + j)) 5 < hn (2 ^ 32) (fun j => zW z q (2 + j)) 5 then 1 else 0)) := by
  intro m
  induction m with
  | zero =>
    intro i n h1 h2 h3
    obtain ⟨n, rfl⟩ : ∃ q9, n = q9 + 1 := ⟨n - 1, by omega⟩
    have h1 : i = 5 := h1
    unfold Tre_isBefore_b2
    rw [h1, if_pos (show (7 : Int32) ≤ nI (2 + 5) by decide), if_neg (by
      rw [hn_congr (g := fun j => zW z q (2 + j)) (fun j hj => h3 j (by omega))]
      exact Nat.lt_irrefl _)]
    rfl
  | succ m ih =>
    intro i n h1 h2 h3
    obtain ⟨n, rfl⟩ : ∃ q9, n = q9 + 1 := ⟨n - 1, by omega⟩
    unfold Tre_isBefore_b2
    rw [if_neg (show ¬ (7 : Int32) ≤ nI (2 + i) from fun w => by
      rw [show (7 : Int32) = nI 7 from rfl, nI_leI (by decide) (by omega)] at w
      omega), Dev_word_e FU z hp (by omega), Option.bind_some, Dev_word_e FU z hq (by omega), Option.bind_some]
    have wp : zW z p (2 + i) < 2 ^ 32 := hw _
    have wq : zW z q (2 + i) < 2 ^ 32 := hw _
    by_cases c : zW z p (2 + i) = zW z q (2 + i)
    · rw [if_pos ((flip_eq wp wq).mpr c), nI_1, show 2 + i + 1 = 2 + (i + 1) by omega]
      refine ih (i + 1) n (by omega) (by omega) (fun j hj => ?_)
      by_cases d : j = i
      · rw [d]; exact c
      · exact h3 j (by omega)
    · rw [if_neg (fun w => c ((flip_eq wp wq).mp w))]
      by_cases d : zW z q (2 + i) ≤ zW z p (2 + i)
      · have := hn_lt (B := 2 ^ 32) (f := fun j => zW z q (2 + j)) (g := fun j => zW z p (2 + j)) (i := i) (fun j hj => (h3 j hj).symm) (show zW z q (2 + i) < zW z p (2 + i) by omega) (n := 5) (fun j _ => hw _) (by omega)
        rw [if_pos ((flip_le wq wp).mpr d), if_neg (by omega)]
        rfl
      · have := hn_lt (B := 2 ^ 32) (f := fun j => zW z p (2 + j)) (g := fun j => zW z q (2 + j)) (i := i) h3 (show zW z p (2 + i) < zW z q (2 + i) by omega) (n := 5) (fun j _ => hw _) (by omega)
        rw [if_neg (fun w => d ((flip_le wq wp).mp w)), if_pos this]
        rfl
theorem nmE_W {z : NSt} (b : Nat) : nmE (zV z) b = hn (2 ^ 32) (fun j => zW z b (2 + j)) 5 := by
  unfold nmE
  exact hn_congr (fun i hi => zV_W (by omega))
theorem isBefore_s {FU : Nat} (hF : 140000 < FU) {z : NSt} (hw : ∀ i, z.2 4 i < 2 ^ 32) {p q : Nat} (hp : p < 2117) (hq : q < 2117) : Tre_isBefore FU (nI p) (nI q) (up z) = some (nI (if nmE (zV z) p < nmE (zV z) q then 1 else 0)) := by
  unfold Tre_isBefore
  rw [nmE_W, nmE_W]
  exact isBefore_b FU hw hp hq 5 0 FU (by omega) (by omega) (fun j hj => by omega)
