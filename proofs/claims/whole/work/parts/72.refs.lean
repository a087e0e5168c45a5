/-! who holds which block -/
theorem Chk_mustBeFree_g (FU : Nat) {z : NSt} (h16 : z.1 16 < 2 ^ 28) (h17 : z.1 17 < 2 ^ 28) (h18 : z.1 18 < 2 ^ 28) : Chk_mustBeFree FU (up z) = some (nI (mbf z)) := by
  by_cases h : z.1 17 + z.1 18 ≤ z.1 16
  · exact Chk_mustBeFree_z FU h (by omega)
  · have hneg : ¬ (0 : Int32) < nI (z.1 16) - nI (z.1 17) - nI (z.1 18) := by
      rw [Int32.lt_iff_toInt_lt]
      have e : nI (z.1 16) - nI (z.1 17) - nI (z.1 18) = nI (z.1 16) - nI (z.1 17 + z.1 18) := by
        rw [← nI_add, Int32.sub_sub]
      rw [e, pk_sub_toInt (by omega) (by omega)]
      show ¬ (0 : Int) < _
      omega
    have q0 : z.1 16 - z.1 17 - z.1 18 = 0 := by omega
    unfold Chk_mustBeFree mbf
    simp only [up1]
    rw [q0, if_neg hneg]
    simp (disch := omega) only [lit_nI, nI_ltI, nI_leI, nI_eq, nI_add, pk_sub, pk_div, nI_64, rdA_z, wrA_z, cpy_z, up1, up_I, nz_n0, nz_n1, zI1, zI2, zR1, zR2, zA1, zA2, Option.bind_some, nx_eq, if_true, if_false, if_pos, if_neg]
def TR (P : Nat → Nat) (R : Nat → Nat → Nat) (u : Nat → Nat) : Prop :=
  (∀ n m, P n = P m → P n ≠ 0 → n = m) ∧ (∀ b, u b = 1 ↔ b ≠ 0 ∧ ∃ n, P n = b) ∧ (∀ b, u b = 2 ↔ b ≠ 0 ∧ ∃ n i, R n i = b) ∧ ∀ n i m j, R n i ≠ 0 → R n i = R m j → n = m ∧ i = j
def up2' (R : Nat → Nat → Nat) (n i v : Nat) : Nat → Nat → Nat := va_up R n (va_up (R n) i v)
theorem u2_s (R : Nat → Nat → Nat) (n i v : Nat) : up2' R n i v n i = v := by
  unfold up2'
  rw [va_up_self, va_up_self]
theorem u2_n (R : Nat → Nat → Nat) {n i m j : Nat} (v : Nat) (h : ¬ (m = n ∧ j = i)) : up2' R n i v m j = R m j := by
  unfold up2'
  by_cases q : m = n
  · subst q
    rw [va_up_self, va_up_ne _ _ (fun w => h ⟨rfl, w⟩)]
  · rw [va_up_ne _ _ q]
theorem TR.add {P : Nat → Nat} {R : Nat → Nat → Nat} {u : Nat → Nat} (h : TR P R u) {d n i : Nat} (hd : u d = 0) (hd0 : d ≠ 0) (hr : R n i = 0) : TR P (up2' R n i d) (va_up u d 2) := by
  obtain ⟨h1, h2, h3, h4⟩ := h
  have hno : ∀ m j, R m j ≠ d := fun m j q => by
    have := (h3 d).mpr ⟨hd0, m, j, q⟩
    omega
  have hnp : ∀ m, P m ≠ d := fun m q => by
    have := (h2 d).mpr ⟨hd0, m, q⟩
    omega
  refine ⟨h1, fun b => ?_, fun b => ?_, fun m j m' j' hne he => ?_⟩
  · by_cases q : b = d
    · rw [q, va_up_self]
      exact ⟨fun w => by omega, fun ⟨_, m, w⟩ => absurd w (hnp m)⟩
    · rw [va_up_ne _ _ q]; exact h2 b
  · by_cases q : b = d
    · rw [q, va_up_self]
      exact ⟨fun _ => ⟨hd0, n, i, u2_s R n i d⟩, fun _ => rfl⟩
    · rw [va_up_ne _ _ q, h3 b]
      refine ⟨fun ⟨w, m, j, e⟩ => ⟨w, m, j, ?_⟩, fun ⟨w, m, j, e⟩ => ⟨w, m, j, ?_⟩⟩
      · rw [u2_n]
        · exact e
        · rintro ⟨rfl, rfl⟩
          exact w (by rw [← e, hr])
      · rw [u2_n] at e
        · exact e
        · rintro ⟨rfl, rfl⟩
          rw [u2_s] at e
          exact q e.symm
  · by_cases c : m = n ∧ j = i
    · obtain ⟨rfl, rfl⟩ := c
      by_cases c' : m' = m ∧ j' = j
      · exact ⟨c'.1.symm, c'.2.symm⟩
      · rw [u2_s, u2_n R d c'] at he
        exact absurd he.symm (hno _ _)
    · rw [u2_n R d c] at he hne
      by_cases c' : m' = n ∧ j' = i
      · obtain ⟨rfl, rfl⟩ := c'
        rw [u2_s] at he
        exact absurd he (hno _ _)
      · rw [u2_n R d c'] at he
        exact h4 m j m' j' hne he
theorem TR.del {P : Nat → Nat} {R : Nat → Nat → Nat} {u : Nat → Nat} (h : TR P R u) {n i : Nat} (hr : R n i ≠ 0) : TR P (up2' R n i 0) (va_up u (R n i) 0) := by
  obtain ⟨h1, h2, h3, h4⟩ := h
  have hu : u (R n i) = 2 := (h3 _).mpr ⟨hr, n, i, rfl⟩
  refine ⟨h1, fun b => ?_, fun b => ?_, fun m j m' j' hne he => ?_⟩
  · by_cases q : b = R n i
    · rw [q, va_up_self]
      refine ⟨fun w => by omega, fun w => ?_⟩
      have := (h2 _).mpr w
      omega
    · rw [va_up_ne _ _ q]; exact h2 b
  · by_cases q : b = R n i
    · rw [q, va_up_self]
      refine ⟨fun w => by omega, fun ⟨_, m, j, e⟩ => ?_⟩
      by_cases c : m = n ∧ j = i
      · obtain ⟨rfl, rfl⟩ := c
        rw [u2_s] at e
        exact absurd e.symm hr
      · rw [u2_n R 0 c] at e
        obtain ⟨e1, e2⟩ := h4 n i m j hr e.symm
        exact absurd ⟨e1.symm, e2.symm⟩ c
    · rw [va_up_ne _ _ q, h3 b]
      refine ⟨fun ⟨w, m, j, e⟩ => ⟨w, m, j, ?_⟩, fun ⟨w, m, j, e⟩ => ⟨w, m, j, ?_⟩⟩
      · rw [u2_n]
        · exact e
        · rintro ⟨rfl, rfl⟩
          exact q e.symm
      · rw [u2_n] at e
        · exact e
        · rintro ⟨rfl, rfl⟩
          rw [u2_s] at e
          exact w e.symm
  · by_cases c : m = n ∧ j = i
    · obtain ⟨rfl, rfl⟩ := c
      rw [u2_s] at hne
      exact absurd rfl hne
    · rw [u2_n R 0 c] at he hne
      by_cases c' : m' = n ∧ j' = i
      · obtain ⟨rfl, rfl⟩ := c'
        rw [u2_s] at he
        exact absurd he hne
      · rw [u2_n R 0 c'] at he
        exact h4 m j m' j' hne he
theorem TR.node {P : Nat → Nat} {R : Nat → Nat → Nat} {u : Nat → Nat} (h : TR P R u) {n q : Nat} (hq : u q = 0) (hq0 : q ≠ 0) (h0 : u 0 = 0) : TR (va_up P n q) R (va_up (va_up u q 1) (P n) 0) := by
  obtain ⟨h1, h2, h3, h4⟩ := h
  have hnp : ∀ m, P m ≠ q := fun m w => by
    have := (h2 q).mpr ⟨hq0, m, w⟩
    omega
  have hpn : P n = 0 ∨ u (P n) = 1 := by
    by_cases w : P n = 0
    · exact Or.inl w
    · exact Or.inr ((h2 _).mpr ⟨w, n, rfl⟩)
  refine ⟨fun m m' e hne => ?_, fun b => ?_, fun b => ?_, h4⟩
  · by_cases c : m = n
    · subst c
      by_cases c' : m' = m
      · exact c'.symm
      · rw [va_up_self, va_up_ne _ _ c'] at e
        exact absurd e.symm (hnp m')
    · rw [va_up_ne _ _ c] at e hne
      by_cases c' : m' = n
      · subst c'
        rw [va_up_self] at e
        exact absurd e (hnp m)
      · rw [va_up_ne _ _ c'] at e
        exact h1 m m' e hne
  · by_cases w : b = P n
    · rw [w, va_up_self]
      refine ⟨fun v => by omega, fun ⟨v, m, e⟩ => ?_⟩
      by_cases c : m = n
      · rw [c, va_up_self] at e
        exact absurd e.symm (hnp n)
      · rw [va_up_ne _ _ c] at e
        exact absurd (h1 m n e (by rw [e]; exact v)) c
    · rw [va_up_ne _ _ w]
      by_cases v : b = q
      · rw [v, va_up_self]
        exact ⟨fun _ => ⟨hq0, n, va_up_self _ _ _⟩, fun _ => rfl⟩
      · rw [va_up_ne _ _ v, h2 b]
        refine ⟨fun ⟨x, m, e⟩ => ⟨x, m, ?_⟩, fun ⟨x, m, e⟩ => ⟨x, m, ?_⟩⟩
        · rw [va_up_ne]
          · exact e
          · intro c
            exact w (by rw [← e, c])
        · rw [va_up_ne] at e
          · exact e
          · intro c
            rw [c, va_up_self] at e
            exact v e.symm
  · have hb : u b = 2 ↔ va_up (va_up u q 1) (P n) 0 b = 2 := by
      by_cases w : b = P n
      · rw [w, va_up_self]
        rcases hpn with v | v
        · rw [v, h0]
        · rw [v]; omega
      · rw [va_up_ne _ _ w]
        by_cases v : b = q
        · rw [v, va_up_self, hq]; omega
        · rw [va_up_ne _ _ v]
    rw [← hb]
    exact h3 b
theorem TR.gone {P : Nat → Nat} {R : Nat → Nat → Nat} {u : Nat → Nat} (h : TR P R u) {n : Nat} (h0 : u 0 = 0) : TR (va_up P n 0) R (va_up u (P n) 0) := by
  obtain ⟨h1, h2, h3, h4⟩ := h
  have hpn : P n = 0 ∨ u (P n) = 1 := by
    by_cases w : P n = 0
    · exact Or.inl w
    · exact Or.inr ((h2 _).mpr ⟨w, n, rfl⟩)
  refine ⟨fun m m' e hne => ?_, fun b => ?_, fun b => ?_, h4⟩
  · by_cases c : m = n
    · rw [c, va_up_self] at hne
      exact absurd rfl hne
    · rw [va_up_ne _ _ c] at e hne
      by_cases c' : m' = n
      · rw [c', va_up_self] at e
        exact absurd e hne
      · rw [va_up_ne _ _ c'] at e
        exact h1 m m' e hne
  · by_cases w : b = P n
    · rw [w, va_up_self]
      refine ⟨fun v => by omega, fun ⟨v, m, e⟩ => ?_⟩
      by_cases c : m = n
      · rw [c, va_up_self] at e
        exact absurd e.symm v
      · rw [va_up_ne _ _ c] at e
        exact absurd (h1 m n e (by rw [e]; exact v)) c
    · rw [va_up_ne _ _ w, h2 b]
      refine ⟨fun ⟨x, m, e⟩ => ⟨x, m, ?_⟩, fun ⟨x, m, e⟩ => ⟨x, m, ?_⟩⟩
      · rw [va_up_ne]
        · exact e
        · intro c
          exact w (by rw [← e, c])
      · rw [va_up_ne] at e
        · exact e
        · intro c
          rw [c, va_up_self] at e
          exact x e.symm
  · have hb : u b = 2 ↔ va_up u (P n) 0 b = 2 := by
      by_cases w : b = P n
      · rw [w, va_up_self]
        rcases hpn with v | v
        · rw [v, h0]
        · rw [v]; omega
      · rw [va_up_ne _ _ w]
    rw [← hb]
    exact h3 b
/-! the pointers of a node, by its words -/
def pFr (l : Nat) : Nat := if l = 0 then 6 else 0
def pNo (l k : Nat) : Nat := if l = 0 then (if k = 2 then 48 else 20) else if l = 1 then 56 else 0
def ptw (f : Nat → Nat) (i : Nat) : Nat := if pFr (f 58) ≤ i ∧ i < pFr (f 58) + pNo (f 58) (f 0) then f i % 4096 else 0
def RR (W : Nat → Nat → Nat) (P : Nat → Nat) (n i : Nat) : Nat := if P n = 0 then 0 else ptw (W (P n)) i
theorem ptw_lt (f : Nat → Nat) (i : Nat) (h : ptw f i ≠ 0) : i < 56 := by
  unfold ptw at h
  split at h
  · rename_i q
    unfold pFr pNo at q
    by_cases l0 : f 58 = 0
    · simp only [if_pos l0] at q
      split at q <;> omega
    · simp only [if_neg l0] at q
      split at q <;> omega
  · exact absurd rfl h
theorem ptw_congr {f g : Nat → Nat} (h : ∀ i, i < 59 → f i = g i) : ptw f = ptw g := by
  funext i
  unfold ptw
  rw [h 58 (by decide), h 0 (by decide)]
  split
  · rename_i q
    have : i < 59 := by
      unfold pFr pNo at q
      by_cases l0 : g 58 = 0
      · simp only [if_pos l0] at q
        split at q <;> omega
      · simp only [if_neg l0] at q
        split at q <;> omega
    rw [h i this]
  · rfl
theorem ndW_lo (f : Nat → Nat) (n k s e : Nat) {i : Nat} (h : i < 59) : ndW f n k s e i = f i := by
  unfold ndW
  rw [if_neg (by omega), if_neg (by omega), if_neg (by omega), if_neg (by omega)]
theorem PN.W {z y : NSt} {a n k : Nat} (h : PN z a n k y) (b i : Nat) (hi : i < 64) : zW y b i = if b = z.1 8 then ndW (z.2 a) n k (z.1 11) (y.1 8) i else zW z b i := by
  unfold zW
  rw [h.1, cpy_zW _ _ _ _ _ hi]
theorem PD.W {z y : NSt} {a : Nat} (h : PD z a y) (b i : Nat) (hi : i < 64) : zW y b i = if b = z.1 9 then z.2 a i else zW z b i := by
  unfold zW
  rw [h.1, cpy_zW _ _ _ _ _ hi]
/-- the pointers behind putNode -/
theorem PN_RR {z y : NSt} {a n k : Nat} (h : PN z a n k y) (hq : ∀ m, z.2 6 m ≠ z.1 8) : RR (zW y) (y.2 6) = va_up (RR (zW z) (z.2 6)) n (ptw (z.2 a)) := by
  have h6 := h.2.2.1
  have hq0 : z.1 8 ≠ 0 := by
    have := h.2.2.2.2.2.2.2.2.2.2.1
    omega
  funext m
  by_cases c : m = n
  · rw [c, va_up_self]
    funext i
    unfold RR
    rw [h6, va_up_self, if_neg hq0]
    exact congrFun (ptw_congr (fun j hj => by rw [h.W _ _ (by omega), if_pos rfl, ndW_lo _ _ _ _ _ hj])) i
  · rw [va_up_ne _ _ c]
    funext i
    unfold RR
    rw [h6, va_up_ne _ _ c]
    by_cases w : z.2 6 m = 0
    · rw [if_pos w, if_pos w]
    · rw [if_neg w, if_neg w]
      exact congrFun (ptw_congr (fun j hj => by rw [h.W _ _ (by omega), if_neg (hq m)])) i
/-- a change of the device outside of what is held leaves the pointers -/
theorem RR_congr {W W' : Nat → Nat → Nat} {P : Nat → Nat} (h : ∀ n, P n ≠ 0 → ∀ i, i < 59 → W' (P n) i = W (P n) i) : RR W' P = RR W P := by
  funext n i
  unfold RR
  by_cases w : P n = 0
  · rw [if_pos w, if_pos w]
  · rw [if_neg w, if_neg w]
    exact congrFun (ptw_congr (fun j hj => h n w j hj)) i
/-- the table, the nodes' pointers and the use of the blocks fit -/
def TU (z : NSt) : Prop := TR (z.2 6) (RR (zW z) (z.2 6)) (z.2 9) ∧ (∀ n, z.2 6 n ≠ 0 → 1 ≤ n ∧ n < 2048 ∧ zW z (z.2 6 n) 60 = n)
theorem LG.u0 {z : NSt} (h : LG z) : z.2 9 0 = 0 := by
  by_cases q : z.2 9 0 = 0
  · exact q
  · have := (h.1.2.1 0 q).2.1
    omega
theorem TU.P8 {z : NSt} (h : LG z) {P : Nat → Nat} {R : Nat → Nat → Nat} (hT : TR P R (z.2 9)) (m : Nat) : P m ≠ z.1 8 ∧ P m ≠ z.1 9 := by
  have h8 := h.end8
  have h9 := h.end9
  refine ⟨fun q => ?_, fun q => ?_⟩
  · have := (hT.2.1 (z.1 8)).mpr ⟨by omega, m, q⟩
    omega
  · have := (hT.2.1 (z.1 9)).mpr ⟨by omega, m, q⟩
    omega
theorem TR.pb {z : NSt} (h : LG z) {P : Nat → Nat} {R : Nat → Nat → Nat} (hT : TR P R (z.2 9)) (m : Nat) : P m = 0 ∨ (69 ≤ P m ∧ P m < 69 + 16 * z.1 6 ∧ P m < 2117 ∧ z.2 9 (P m) = 1 ∧ z.2 5 (P m) = 1) := by
  by_cases q : P m = 0
  · exact Or.inl q
  · right
    have hu := (hT.2.1 (P m)).mpr ⟨q, m, rfl⟩
    obtain ⟨-, u2, u3, u4⟩ := h.1.2.1 (P m) (by omega)
    have := h.1.1.2.1
    exact ⟨u2, u3, by omega, hu, u4⟩
theorem TR.rb {z : NSt} (h : LG z) {P : Nat → Nat} {R : Nat → Nat → Nat} (hT : TR P R (z.2 9)) {n i : Nat} (hr : R n i ≠ 0) : 69 ≤ R n i ∧ R n i < 69 + 16 * z.1 6 ∧ R n i < 2117 ∧ z.2 9 (R n i) = 2 ∧ z.2 5 (R n i) = 1 := by
  have hu := (hT.2.2.1 (R n i)).mpr ⟨hr, n, i, rfl⟩
  obtain ⟨-, u2, u3, u4⟩ := h.1.2.1 (R n i) (by omega)
  have := h.1.1.2.1
  exact ⟨u2, u3, by omega, hu, u4⟩
