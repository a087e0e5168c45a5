/-! rows of bytes in memory -/
def pbZ (z : NSt) (a o i v : Nat) : NSt := zA z a (o + i / 4) (pbw (z.2 a (o + i / 4)) (i % 4) v)
def BYT (z y : NSt) (a o lo hi : Nat) (g : Nat → Nat) : Prop := (y.1 = z.1) ∧ (∀ c, c ≠ a → y.2 c = z.2 c) ∧ ((∀ j, z.2 a j < 2 ^ 32) → ∀ j, y.2 a j < 2 ^ 32) ∧ (∀ j, j < o ∨ o + (hi + 3) / 4 ≤ j → y.2 a j = z.2 a j) ∧ (∀ k, gb (fun j => y.2 a (o + j)) k = if lo ≤ k ∧ k < hi then g k % 256 else gb (fun j => z.2 a (o + j)) k)
theorem BYT.s {z y : NSt} {a o lo hi : Nat} {g : Nat → Nat} (h9 : BYT z y a o lo hi g) : y.1 = z.1 := h9.1
theorem BYT.ar {z y : NSt} {a o lo hi : Nat} {g : Nat → Nat} (h9 : BYT z y a o lo hi g) : ∀ c, c ≠ a → y.2 c = z.2 c := h9.2.1
theorem BYT.wd {z y : NSt} {a o lo hi : Nat} {g : Nat → Nat} (h9 : BYT z y a o lo hi g) : (∀ j, z.2 a j < 2 ^ 32) → ∀ j, y.2 a j < 2 ^ 32 := h9.2.2.1
theorem BYT.out {z y : NSt} {a o lo hi : Nat} {g : Nat → Nat} (h9 : BYT z y a o lo hi g) : ∀ j, j < o ∨ o + (hi + 3) / 4 ≤ j → y.2 a j = z.2 a j := h9.2.2.2.1
theorem BYT.by' {z y : NSt} {a o lo hi : Nat} {g : Nat → Nat} (h9 : BYT z y a o lo hi g) : ∀ k, gb (fun j => y.2 a (o + j)) k = if lo ≤ k ∧ k < hi then g k % 256 else gb (fun j => z.2 a (o + j)) k := h9.2.2.2.2
theorem BYT.rf (z : NSt) (a o lo : Nat) (g : Nat → Nat) : BYT z z a o lo lo g := ⟨rfl, fun _ _ => rfl, fun h => h, fun _ _ => rfl, fun k => by rw [if_neg (by omega)]⟩
theorem BYT.step {z y : NSt} {a o lo i v : Nat} {g : Nat → Nat} (h : BYT z y a o lo i g) (hi : lo ≤ i) (hv : v % 256 = g i % 256) : BYT z (pbZ y a o i v) a o lo (i + 1) g := by
  have e : ∀ j, (pbZ y a o i v).2 a j = if j = o + i / 4 then pbw (y.2 a (o + i / 4)) (i % 4) v else y.2 a j := fun j => by
    unfold pbZ
    rw [zA2, if_pos rfl]
    rfl
  refine ⟨h.s, fun c hc => ?_, fun hw j => ?_, fun j hj => ?_, fun k => ?_⟩
  · unfold pbZ
    rw [zA2, if_neg hc, h.ar c hc]
  · rw [e]
    split
    · exact pbw_lt (h.wd hw _) (Nat.mod_lt _ (by decide))
    · exact h.wd hw j
  · rw [e, if_neg (by omega), h.out j (by omega)]
  · have e2 : (fun j => (pbZ y a o i v).2 a (o + j)) = va_up (fun j => y.2 a (o + j)) (i / 4) (pbw ((fun j => y.2 a (o + j)) (i / 4)) (i % 4) v) := by
      funext j
      rw [e]
      unfold va_up
      by_cases c : j = i / 4
      · rw [if_pos c, if_pos (by omega)]
      · rw [if_neg c, if_neg (by omega)]
    rw [e2, gb_pb, h.by' k]
    by_cases c : k = i
    · rw [if_pos c, if_pos (by omega), hv, c]
    · rw [if_neg c]
      by_cases d : lo ≤ k ∧ k < i
      · rw [if_pos d, if_pos (by omega)]
      · rw [if_neg d, if_neg (by omega)]
theorem clearFrom_b (FU a o hi : Nat) (ho : o + (hi + 3) / 4 ≤ lenF a) (hh : hi < 2 ^ 31) : ∀ (m i n lo : Nat) (z y : NSt), i + m = hi → m < n → lo ≤ i → BYT z y a o lo i (fun _ => 0) → Ev (Fil_clearFrom_b3 FU a n (nI o) (nI hi) (nI i) (up y)) fun r => ∃ x, r = up x ∧ BYT z x a o lo hi (fun _ => 0) := by
  intro m
  induction m with
  | zero =>
    intro i n lo z y h1 h2 h3 h4
    obtain ⟨n, rfl⟩ : ∃ q9, n = q9 + 1 := ⟨n - 1, by omega⟩
    have h1 : i = hi := h1
    subst h1
    unfold Fil_clearFrom_b3
    rw [if_pos (nI_le (Nat.le_refl _) hh)]
    exact Ev.ret ⟨y, rfl, h4⟩
  | succ m ih =>
    intro i n lo z y h1 h2 h3 h4
    obtain ⟨n, rfl⟩ : ∃ q9, n = q9 + 1 := ⟨n - 1, by omega⟩
    unfold Fil_clearFrom_b3
    rw [if_neg (nI_ge (by omega) hh), show (0 : Int32) = nI 0 from rfl, putByte_z FU y a (by omega) (by omega), Option.bind_some, nI_1]
    exact ih (i + 1) n lo z _ (by omega) (by omega) (by omega) (h4.step (v := 0) h3 rfl)
theorem clearFrom_s {FU : Nat} (a o : Nat) {lo hi : Nat} (hF : hi < FU) (ho : o + (hi + 3) / 4 ≤ lenF a) (hh : hi < 2 ^ 31) (hl : lo ≤ hi) (z : NSt) : Ev (Fil_clearFrom FU a (nI o) (nI lo) (nI hi) (up z)) fun r => ∃ x, r = up x ∧ BYT z x a o lo hi (fun _ => 0) :=
  clearFrom_b FU a o hi ho hh (hi - lo) lo FU lo z z (by omega) (by omega) (Nat.le_refl _) (BYT.rf _ _ _ _ _)
theorem BYT.wk {z y : NSt} {BP : Nat → Nat → Nat} {T : TRE} {tk : TKS} {PP : Nat → Nat} {ch : List Nat} (h : WK z BP T tk PP ch) {a o lo hi : Nat} {g : Nat → Nat} (ha : 13 ≤ a) (hb : BYT z y a o lo hi g) : WK y BP T tk PP ch :=
  h.mem (fun k _ _ => by rw [hb.s]) (fun c _ _ _ _ => hb.ar c (by omega)) (fun n _ => Or.inl (by rw [hb.ar 7 (by omega)])) (fun c c1 c2 i => by
    by_cases q : c = a
    · rw [q]; exact hb.wd (h.wd a (by omega) (by omega)) i
    · rw [hb.ar c q]; exact h.wd c c1 c2 i)
theorem Row_at0 (FU : Nat) (z : NSt) {i : Nat} (hi : i < 2060) : Row_at FU 0 (nI i) (up z) = some (nI (z.2 0 i)) := by
  unfold Row_at
  have e : lenF 0 = 2060 := rfl
  rw [if_neg (nI_pos (by omega)), e, if_pos (nI_lt hi (by decide)), rdA_z z 0 hi (by decide), Option.bind_some]
/-- the bytes of the tape go into a block -/
theorem fillBlock_b (FU at' B hi : Nat) (hB : B ≤ hi) (hh : hi ≤ B + 256) (hb : hi < 2 ^ 31) (hat : ∀ i, i < hi → i - at' < 2060) : ∀ (m i n lo : Nat) (z y : NSt), i + m = hi → m < n → B ≤ i → at' ≤ i → lo ≤ i - B → (∀ j, y.2 0 j = z.2 0 j) → BYT z y 16 0 lo (i - B) (fun k => z.2 0 (B + k - at')) → Ev (Fil_fillBlock_b66 FU 0 n (nI at') (nI B) (nI hi) (nI i) (up y)) fun r => ∃ x, r = up x ∧ BYT z x 16 0 lo (hi - B) (fun k => z.2 0 (B + k - at')) := by
  intro m
  induction m with
  | zero =>
    intro i n lo z y h1 h2 h3 h4 h5 h6 h7
    obtain ⟨n, rfl⟩ : ∃ q9, n = q9 + 1 := ⟨n - 1, by omega⟩
    have h1 : i = hi := h1
    subst h1
    unfold Fil_fillBlock_b66
    rw [if_pos (nI_le (Nat.le_refl _) hb)]
    exact Ev.ret ⟨y, rfl, h7⟩
  | succ m ih =>
    intro i n lo z y h1 h2 h3 h4 h5 h6 h7
    obtain ⟨n, rfl⟩ : ∃ q9, n = q9 + 1 := ⟨n - 1, by omega⟩
    have hl : lenF 16 = 64 := rfl
    unfold Fil_fillBlock_b66
    rw [if_neg (nI_ge (by omega) hb), pk_sub h4, Row_at0 FU y (hat i (by omega)), Option.bind_some, pk_sub h3, show (0 : Int32) = nI 0 from rfl, putByte_z FU y 16 (by omega) (by omega), Option.bind_some, nI_1]
    have hs := h7.step (v := y.2 0 (i - at')) h5 (by rw [h6, show B + (i - B) - at' = i - at' by omega])
    rw [show i - B + 1 = i + 1 - B by omega] at hs
    refine ih (i + 1) n lo z _ (by omega) (by omega) (by omega) (by omega) (by omega) (fun j => ?_) hs
    rw [zA2, if_neg (by decide), h6]
/-- small files are written in their inode -/
theorem smallBytes_b (FU at' n0 : Nat) (hh : at' + n0 ≤ 96) (Q : Int32 × St → Prop) (z : NSt) (hk : ∀ y, BYT z y 13 30 at' (at' + n0) (fun k => z.2 0 (k - at')) → Ev (Fil_putBytes_b139 FU 0 (nI at') (nI n0) (up y)) Q) : ∀ (m i n : Nat) (y : NSt), i + m = n0 → m < n → (∀ j, y.2 0 j = z.2 0 j) → BYT z y 13 30 at' (at' + i) (fun k => z.2 0 (k - at')) → Ev (Fil_putBytes_b26 FU 0 n (nI at') (nI n0) (nI i) (up y)) Q := by
  intro m
  induction m with
  | zero =>
    intro i n y h1 h2 h3 h4
    obtain ⟨n, rfl⟩ : ∃ q9, n = q9 + 1 := ⟨n - 1, by omega⟩
    have h1 : i = n0 := h1
    subst h1
    unfold Fil_putBytes_b26
    rw [if_pos (nI_le (Nat.le_refl _) (by omega))]
    exact hk y h4
  | succ m ih =>
    intro i n y h1 h2 h3 h4
    obtain ⟨n, rfl⟩ : ∃ q9, n = q9 + 1 := ⟨n - 1, by omega⟩
    have hl : lenF 13 = 64 := rfl
    unfold Fil_putBytes_b26
    rw [if_neg (nI_ge (by omega) (by omega)), Row_at0 FU y (by omega), Option.bind_some, nI_add, show (30 : Int32) = nI 30 from rfl, putByte_z FU y 13 (by omega) (by omega), Option.bind_some, nI_1]
    have hs := h4.step (v := y.2 0 i) (by omega) (by rw [h3, show at' + i - at' = i by omega])
    refine ih (i + 1) n _ (by omega) (by omega) (fun j => ?_) hs
    rw [zA2, if_neg (by decide), h3]
