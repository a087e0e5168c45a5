/-! a file while it is worked on -/
def nuI (z : NSt) (j : Nat) : Nat := if j = 0 then z.2 13 28 else if j < 3 then z.2 13 (25 + j) else z.2 14 (j - 3)
def KC (z : NSt) : Nat := sm (fun n => if z.2 7 (251 + n) = 0 then 0 else 1) 1797
/-- what node j is to hold -/
def cnt' (z : NSt) (bp : Nat → Nat) (j i : Nat) : Nat := if j = 0 then z.2 14 i else bp (20 + 56 * (j - 1) + i)
def MIC (z z0 : NSt) (R : TRE) (tk : TKS) (PP : Nat → Nat) (ch : List Nat) (id : Nat) (bp : Nat → Nat) (dirty : Nat → Prop) : Prop := (WK z (va_up (BPL (zV z0) (z0.2 6)) id bp) R tk PP ch) ∧ (KW z0 z) ∧ (∀ n, z0.2 6 n ≠ 0 → z0.2 5 (z0.2 6 n) ≠ 0) ∧ (z.1 12 = id) ∧ (∀ n, n ≤ 250 → z.2 6 n = z0.2 6 n) ∧ (∀ n, 250 < n → z0.2 6 n ≠ 0 → zV z0 (z0.2 6 n) 61 ≠ id → z.2 6 n = z0.2 6 n) ∧ (∀ n, 250 < n → z.2 6 n ≠ 0 → (zV z (z.2 6 n) 61 = id ∧ ∃ j, j ≤ 7 ∧ nuI z j = n) ∨ (zV z (z.2 6 n) 61 ≠ id ∧ z.2 6 n = z0.2 6 n)) ∧ (∀ i, 5 ≤ i → i < 56 → z.2 14 i = 0) ∧ (∀ j, j ≤ 7 → nuI z j ≠ 0 → 250 < nuI z j ∧ nuI z j < 2048 ∧ z.2 6 (nuI z j) ≠ 0 ∧ zV z (z.2 6 (nuI z j)) 61 = id ∧ zV z (z.2 6 (nuI z j)) 58 = if j = 0 then 2 else 1) ∧ (∀ j j', j ≤ 7 → j' ≤ 7 → nuI z j ≠ 0 → nuI z j = nuI z j' → j = j') ∧ (∀ k, k < 20 → bp k = z.2 13 (6 + k)) ∧ (∀ k, 412 ≤ k → bp k = 0) ∧ (∀ j, j ≤ 7 → ¬ dirty j → (∀ i, i < 56 → cnt' z bp j i = if nuI z j = 0 then 0 else zV z (z.2 6 (nuI z j)) i) ∧ (nuI z j ≠ 0 → ∃ i, i < 56 ∧ cnt' z bp j i ≠ 0)) ∧ (z.2 13 0 = 1 ∧ z.2 13 58 = 0 ∧ z.2 13 61 = id) ∧ (KC z + Uz z ≤ KC z0 + Uz z0) ∧ (FR z0 z ∧ z.2 8 = z0.2 8)
theorem MIC.wk {z z0 : NSt} {R : TRE} {tk : TKS} {PP : Nat → Nat} {ch : List Nat} {id : Nat} {bp : Nat → Nat} {dirty : Nat → Prop} (h9 : MIC z z0 R tk PP ch id bp dirty) : WK z (va_up (BPL (zV z0) (z0.2 6)) id bp) R tk PP ch := h9.1
theorem MIC.kw {z z0 : NSt} {R : TRE} {tk : TKS} {PP : Nat → Nat} {ch : List Nat} {id : Nat} {bp : Nat → Nat} {dirty : Nat → Prop} (h9 : MIC z z0 R tk PP ch id bp dirty) : KW z0 z := h9.2.1
theorem MIC.w0 {z z0 : NSt} {R : TRE} {tk : TKS} {PP : Nat → Nat} {ch : List Nat} {id : Nat} {bp : Nat → Nat} {dirty : Nat → Prop} (h9 : MIC z z0 R tk PP ch id bp dirty) : ∀ n, z0.2 6 n ≠ 0 → z0.2 5 (z0.2 6 n) ≠ 0 := h9.2.2.1
theorem MIC.hid {z z0 : NSt} {R : TRE} {tk : TKS} {PP : Nat → Nat} {ch : List Nat} {id : Nat} {bp : Nat → Nat} {dirty : Nat → Prop} (h9 : MIC z z0 R tk PP ch id bp dirty) : z.1 12 = id := h9.2.2.2.1
theorem MIC.pid {z z0 : NSt} {R : TRE} {tk : TKS} {PP : Nat → Nat} {ch : List Nat} {id : Nat} {bp : Nat → Nat} {dirty : Nat → Prop} (h9 : MIC z z0 R tk PP ch id bp dirty) : ∀ n, n ≤ 250 → z.2 6 n = z0.2 6 n := h9.2.2.2.2.1
theorem MIC.pot {z z0 : NSt} {R : TRE} {tk : TKS} {PP : Nat → Nat} {ch : List Nat} {id : Nat} {bp : Nat → Nat} {dirty : Nat → Prop} (h9 : MIC z z0 R tk PP ch id bp dirty) : ∀ n, 250 < n → z0.2 6 n ≠ 0 → zV z0 (z0.2 6 n) 61 ≠ id → z.2 6 n = z0.2 6 n := h9.2.2.2.2.2.1
theorem MIC.pnw {z z0 : NSt} {R : TRE} {tk : TKS} {PP : Nat → Nat} {ch : List Nat} {id : Nat} {bp : Nat → Nat} {dirty : Nat → Prop} (h9 : MIC z z0 R tk PP ch id bp dirty) : ∀ n, 250 < n → z.2 6 n ≠ 0 → (zV z (z.2 6 n) 61 = id ∧ ∃ j, j ≤ 7 ∧ nuI z j = n) ∨ (zV z (z.2 6 n) 61 ≠ id ∧ z.2 6 n = z0.2 6 n) := h9.2.2.2.2.2.2.1
theorem MIC.xz {z z0 : NSt} {R : TRE} {tk : TKS} {PP : Nat → Nat} {ch : List Nat} {id : Nat} {bp : Nat → Nat} {dirty : Nat → Prop} (h9 : MIC z z0 R tk PP ch id bp dirty) : ∀ i, 5 ≤ i → i < 56 → z.2 14 i = 0 := h9.2.2.2.2.2.2.2.1
theorem MIC.rg {z z0 : NSt} {R : TRE} {tk : TKS} {PP : Nat → Nat} {ch : List Nat} {id : Nat} {bp : Nat → Nat} {dirty : Nat → Prop} (h9 : MIC z z0 R tk PP ch id bp dirty) : ∀ j, j ≤ 7 → nuI z j ≠ 0 → 250 < nuI z j ∧ nuI z j < 2048 ∧ z.2 6 (nuI z j) ≠ 0 ∧ zV z (z.2 6 (nuI z j)) 61 = id ∧ zV z (z.2 6 (nuI z j)) 58 = if j = 0 then 2 else 1 := h9.2.2.2.2.2.2.2.2.1
theorem MIC.nj {z z0 : NSt} {R : TRE} {tk : TKS} {PP : Nat → Nat} {ch : List Nat} {id : Nat} {bp : Nat → Nat} {dirty : Nat → Prop} (h9 : MIC z z0 R tk PP ch id bp dirty) : ∀ j j', j ≤ 7 → j' ≤ 7 → nuI z j ≠ 0 → nuI z j = nuI z j' → j = j' := h9.2.2.2.2.2.2.2.2.2.1
theorem MIC.b0 {z z0 : NSt} {R : TRE} {tk : TKS} {PP : Nat → Nat} {ch : List Nat} {id : Nat} {bp : Nat → Nat} {dirty : Nat → Prop} (h9 : MIC z z0 R tk PP ch id bp dirty) : ∀ k, k < 20 → bp k = z.2 13 (6 + k) := h9.2.2.2.2.2.2.2.2.2.2.1
theorem MIC.b9 {z z0 : NSt} {R : TRE} {tk : TKS} {PP : Nat → Nat} {ch : List Nat} {id : Nat} {bp : Nat → Nat} {dirty : Nat → Prop} (h9 : MIC z z0 R tk PP ch id bp dirty) : ∀ k, 412 ≤ k → bp k = 0 := h9.2.2.2.2.2.2.2.2.2.2.2.1
theorem MIC.cl {z z0 : NSt} {R : TRE} {tk : TKS} {PP : Nat → Nat} {ch : List Nat} {id : Nat} {bp : Nat → Nat} {dirty : Nat → Prop} (h9 : MIC z z0 R tk PP ch id bp dirty) : ∀ j, j ≤ 7 → ¬ dirty j → (∀ i, i < 56 → cnt' z bp j i = if nuI z j = 0 then 0 else zV z (z.2 6 (nuI z j)) i) ∧ (nuI z j ≠ 0 → ∃ i, i < 56 ∧ cnt' z bp j i ≠ 0) := h9.2.2.2.2.2.2.2.2.2.2.2.2.1
theorem MIC.i0 {z z0 : NSt} {R : TRE} {tk : TKS} {PP : Nat → Nat} {ch : List Nat} {id : Nat} {bp : Nat → Nat} {dirty : Nat → Prop} (h9 : MIC z z0 R tk PP ch id bp dirty) : z.2 13 0 = 1 ∧ z.2 13 58 = 0 ∧ z.2 13 61 = id := h9.2.2.2.2.2.2.2.2.2.2.2.2.2.1
theorem MIC.kc {z z0 : NSt} {R : TRE} {tk : TKS} {PP : Nat → Nat} {ch : List Nat} {id : Nat} {bp : Nat → Nat} {dirty : Nat → Prop} (h9 : MIC z z0 R tk PP ch id bp dirty) : KC z + Uz z ≤ KC z0 + Uz z0 := h9.2.2.2.2.2.2.2.2.2.2.2.2.2.2.1
theorem MIC.fr {z z0 : NSt} {R : TRE} {tk : TKS} {PP : Nat → Nat} {ch : List Nat} {id : Nat} {bp : Nat → Nat} {dirty : Nat → Prop} (h9 : MIC z z0 R tk PP ch id bp dirty) : FR z0 z ∧ z.2 8 = z0.2 8 := h9.2.2.2.2.2.2.2.2.2.2.2.2.2.2.2
/-- what storing a node leaves -/
def SN (z y : NSt) (id o n' a lvl : Nat) : Prop := (KW z y) ∧ (∀ c, 13 ≤ c → c ≠ a → y.2 c = z.2 c) ∧ (∀ i, i < 58 → y.2 a i = z.2 a i) ∧ (∀ k, k ≠ 7 → k ≠ 8 → k ≠ 9 → k ≠ 10 → y.1 k = z.1 k) ∧ ((∀ c, c ≤ 3 → y.2 c = z.2 c) ∧ y.2 8 = z.2 8) ∧ (∀ m, m ≠ n' → m ≠ nuI z o → y.2 6 m = z.2 6 m) ∧ ((n' = 0 ∧ (∀ i, i < 56 → z.2 a i = 0) ∧ (nuI z o ≠ 0 → y.2 6 (nuI z o) = 0) ∧ Uz y = Uz z) ∨ (n' ≠ 0 ∧ 250 < n' ∧ n' < 2048 ∧ y.2 6 n' ≠ 0 ∧ zV y (y.2 6 n') 61 = id ∧ zV y (y.2 6 n') 58 = lvl ∧ (∀ i, i < 56 → zV y (y.2 6 n') i = z.2 a i) ∧ (∃ i, i < 56 ∧ z.2 a i ≠ 0) ∧ (nuI z o ≠ 0 → n' = nuI z o) ∧ (nuI z o = 0 → z.2 6 n' = 0) ∧ Uz y + 1 = Uz z)) ∧ (KC y + Uz y ≤ KC z + Uz z)
theorem SN.kw {z y : NSt} {id o n' a lvl : Nat} (h9 : SN z y id o n' a lvl) : KW z y := h9.1
theorem SN.ar {z y : NSt} {id o n' a lvl : Nat} (h9 : SN z y id o n' a lvl) : ∀ c, 13 ≤ c → c ≠ a → y.2 c = z.2 c := h9.2.1
theorem SN.aa {z y : NSt} {id o n' a lvl : Nat} (h9 : SN z y id o n' a lvl) : ∀ i, i < 58 → y.2 a i = z.2 a i := h9.2.2.1
theorem SN.sc {z y : NSt} {id o n' a lvl : Nat} (h9 : SN z y id o n' a lvl) : ∀ k, k ≠ 7 → k ≠ 8 → k ≠ 9 → k ≠ 10 → y.1 k = z.1 k := h9.2.2.2.1
theorem SN.f3 {z y : NSt} {id o n' a lvl : Nat} (h9 : SN z y id o n' a lvl) : (∀ c, c ≤ 3 → y.2 c = z.2 c) ∧ y.2 8 = z.2 8 := h9.2.2.2.2.1
theorem SN.P {z y : NSt} {id o n' a lvl : Nat} (h9 : SN z y id o n' a lvl) : ∀ m, m ≠ n' → m ≠ nuI z o → y.2 6 m = z.2 6 m := h9.2.2.2.2.2.1
theorem SN.cs {z y : NSt} {id o n' a lvl : Nat} (h9 : SN z y id o n' a lvl) : (n' = 0 ∧ (∀ i, i < 56 → z.2 a i = 0) ∧ (nuI z o ≠ 0 → y.2 6 (nuI z o) = 0) ∧ Uz y = Uz z) ∨ (n' ≠ 0 ∧ 250 < n' ∧ n' < 2048 ∧ y.2 6 n' ≠ 0 ∧ zV y (y.2 6 n') 61 = id ∧ zV y (y.2 6 n') 58 = lvl ∧ (∀ i, i < 56 → zV y (y.2 6 n') i = z.2 a i) ∧ (∃ i, i < 56 ∧ z.2 a i ≠ 0) ∧ (nuI z o ≠ 0 → n' = nuI z o) ∧ (nuI z o = 0 → z.2 6 n' = 0) ∧ Uz y + 1 = Uz z) := h9.2.2.2.2.2.2.1
theorem SN.kc {z y : NSt} {id o n' a lvl : Nat} (h9 : SN z y id o n' a lvl) : KC y + Uz y ≤ KC z + Uz z := h9.2.2.2.2.2.2.2
theorem isEmpty_b (FU a : Nat) {z : NSt} (ha : 56 ≤ lenF a) (hw : ∀ i, z.2 a i < 2 ^ 32) : ∀ (m i n : Nat), i + m = 56 → m < n → (∀ j, j < i → z.2 a j = 0) → Ev (Fil_isEmpty_b2 FU a n (nI i) (up z)) fun r => (r = nI 1 ∧ ∀ j, j < 56 → z.2 a j = 0) ∨ (r = nI 0 ∧ ∃ j, j < 56 ∧ z.2 a j ≠ 0) := by
  have hl := lenF_lt a
  intro m
  induction m with
  | zero =>
    intro i n h1 h2 h3
    obtain ⟨n, rfl⟩ : ∃ q9, n = q9 + 1 := ⟨n - 1, by omega⟩
    have h1 : i = 56 := h1
    subst h1
    unfold Fil_isEmpty_b2
    rw [if_pos (show (56 : Int32) ≤ nI 56 from nI_le (Nat.le_refl 56) (by decide))]
    exact Ev.ret (Or.inl ⟨rfl, h3⟩)
  | succ m ih =>
    intro i n h1 h2 h3
    obtain ⟨n, rfl⟩ : ∃ q9, n = q9 + 1 := ⟨n - 1, by omega⟩
    unfold Fil_isEmpty_b2
    rw [show (56 : Int32) = nI 56 from rfl, if_neg (nI_ge (by omega) (by decide)), rdA_z z a (by omega) hl, Option.bind_some]
    by_cases c : z.2 a i = 0
    · rw [c, if_pos i00, nI_1]
      refine ih (i + 1) n (by omega) (by omega) (fun j hj => ?_)
      by_cases q : j = i
      · rw [q]; exact c
      · exact h3 j (by omega)
    · rw [if_neg (ne0_I (hw _) c)]
      exact Ev.ret (Or.inr ⟨rfl, i, by omega, c⟩)
theorem isEmpty_s {FU : Nat} (hF : 60 < FU) {a : Nat} {z : NSt} (ha : 56 ≤ lenF a) (hw : ∀ i, z.2 a i < 2 ^ 32) : Ev (Fil_isEmpty FU a (up z)) fun r => (r = nI 1 ∧ ∀ j, j < 56 → z.2 a j = 0) ∨ (r = nI 0 ∧ ∃ j, j < 56 ∧ z.2 a j ≠ 0) :=
  isEmpty_b FU a ha hw 56 0 FU (by omega) (by omega) (fun j hj => by omega)
theorem drpZ_0 (z : NSt) : drpZ 0 z = z := if_neg (by omega)
theorem dropNode_z (FU : Nat) {z : NSt} (h : LG z) (hP : PB z) {n : Nat} (h1 : 1 ≤ n) (h2 : n < 2048) : Log_dropNode FU (nI n) (up z) = some (up (zA (drpZ (z.2 6 n) z) 6 n 0)) := by
  have hp := hP n
  unfold Log_dropNode
  rw [Tab_placeOf_z FU z (by omega), Option.bind_some, plZ_in h1 h2, Log_drop_g FU h (by omega), Option.bind_some, show (0 : Int32) = nI 0 from rfl, Tab_setPlace_z FU _ (by omega), Option.bind_some]
  unfold setPl
  rw [if_pos ⟨h1, h2⟩]
theorem dropNode_0 (FU : Nat) {z : NSt} (h : LG z) : Log_dropNode FU (nI 0) (up z) = some (up z) := by
  unfold Log_dropNode
  rw [Tab_placeOf_z FU z (by omega), Option.bind_some, show plZ z 0 = 0 from if_neg (by omega), Log_drop_g FU h (by omega), Option.bind_some, drpZ_0]
  show (Tab_setPlace FU (nI 0) (nI 0) (up z)).bind _ = _
  rw [Tab_setPlace_z FU _ (by omega), Option.bind_some]
  rfl
theorem KC_congr {z y : NSt} (h : y.2 7 = z.2 7) : KC y = KC z := by
  unfold KC
  rw [h]
theorem KC_free {z : NSt} (h : KC z < 1797) : ∃ j, 251 ≤ j ∧ j < 2048 ∧ z.2 7 j = 0 := by
  refine Classical.byContradiction (fun q => ?_)
  have e : KC z = sm (fun _ => 1) 1797 := sm_congr (fun n hn => if_neg (fun w => q ⟨251 + n, by omega, by omega, w⟩))
  rw [e, sm_const] at h
  omega
theorem KC_up {z : NSt} {q : Nat} (h1 : 251 ≤ q) (h2 : q < 2048) (h3 : z.2 7 q = 0) : KC (zA z 7 q 1) = KC z + 1 := by
  unfold KC
  have e : sm (fun n => if (zA z 7 q 1).2 7 (251 + n) = 0 then 0 else 1) 1797 = sm (va_up (fun n => if z.2 7 (251 + n) = 0 then 0 else 1) (q - 251) 1) 1797 := sm_congr (fun n hn => by
    rw [zA2, if_pos rfl]
    unfold va_up
    by_cases c : n = q - 251
    · have c' : 251 + n = q := by omega
      rw [if_pos c', if_pos c, if_neg (by decide)]
    · have c' : ¬ 251 + n = q := by omega
      rw [if_neg c', if_neg c])
  rw [e]
  have := sm_up (f := fun n => if z.2 7 (251 + n) = 0 then 0 else 1) (i := q - 251) (v := 1) (n := 1797) (by omega)
  simp only [show 251 + (q - 251) = q by omega, h3, if_true] at this
  omega
/-- the words of a node are put under a number -/
theorem storeNode_b {FU : Nat} (hF : 140000 < FU) {z : NSt} {BP : Nat → Nat → Nat} {R : TRE} {tk : TKS} {PP : Nat → Nat} {ch : List Nat} (h : WK z BP R tk PP ch) {id a lvl n : Nat} (ha : a = 14 ∨ a = 15) (hid : z.1 12 = id) (i1 : 1 ≤ id) (i2 : id ≤ 250) (hlv : lvl ≤ 2) (hU : 33 ≤ Uz z) (hse : z.1 11 < 2 ^ 32) (hn1 : 250 < n) (hn2 : n < 2048) (ho4 : (z.2 6 n ≠ 0 ∧ zV z (z.2 6 n) 61 = id) ∨ (z.2 6 n = 0 ∧ z.2 7 n ≠ 0 ∧ PP n = 0 ∧ ∀ b, b ∈ ch → zV z b 60 ≠ n)) :
    Ev (Fil_storeNode_b33 FU a (nI lvl) (nI n) (up z)) fun r => ∃ y ch', r = (nI n, up y) ∧ WK y BP R tk PP ch' ∧ KW z y ∧ (∀ c, c ≠ 4 → c ≠ 5 → c ≠ 6 → c ≠ 9 → c ≠ 10 → c ≠ 11 → c ≠ 12 → c ≠ a → y.2 c = z.2 c) ∧ (∀ i, i < 58 → y.2 a i = z.2 a i) ∧ (∀ k, k ≠ 7 → k ≠ 8 → k ≠ 10 → y.1 k = z.1 k) ∧ y.2 6 = va_up (z.2 6) n (z.1 8) ∧ (∀ i, i < 58 → zV y (z.1 8) i = z.2 a i) ∧ zV y (z.1 8) 58 = lvl ∧ zV y (z.1 8) 61 = id ∧ Uz y + 1 = Uz z := by
  have hla : lenF a = 64 := by rcases ha with rfl | rfl <;> rfl
  unfold Fil_storeNode_b33
  rw [hla, up1, hid, show (61 : Int32) = nI 61 from rfl, wrA_z z a (by decide) (by decide), Option.bind_some, show (58 : Int32) = nI 58 from rfl, wrA_z _ a (by decide) (by decide), Option.bind_some]
  obtain ⟨x, ex⟩ : ∃ q, q = zA (zA z a 61 id) a 58 lvl := ⟨_, rfl⟩
  rw [← ex]
  have xa : ∀ c, c ≠ a → x.2 c = z.2 c := fun c hc => by rw [ex, zA2, if_neg hc, zA2, if_neg hc]
  have x1 : x.1 = z.1 := by rw [ex]; rfl
  have xm : ∀ i, x.2 a i = if i = 58 then lvl else if i = 61 then id else z.2 a i := fun i => by
    rw [ex, zA2, if_pos rfl]
    unfold va_up
    by_cases c : i = 58
    · rw [if_pos c, if_pos c]
    · rw [if_neg c, if_neg c, zA2, if_pos rfl]
      rfl
  have hx : WK x BP R tk PP ch := by rw [ex]; exact (h.setA (by omega) (by omega)).setA (by omega) (by omega)
  have ux : Uz x = Uz z := Uz_frame (fun k _ _ => by rw [x1])
  have x6 : x.2 6 = z.2 6 := xa 6 (by omega)
  refine (putNode_s (k := 0) (by omega) hla (by omega) hx.lg (by omega) (by omega) hn2 (by
    rw [x6, xa 9 (by omega)]
    rcases ho4 with ⟨q, -⟩ | ⟨q, -⟩
    · right
      rw [(h.p1 q).2.2.2]; decide
    · exact Or.inl q)).bd ?_
  rintro _ ⟨y, rfl, hy, hpn⟩
  have hkx : KW z x := KW.of4 (xa 4 (by omega)) (xa 5 (by omega))
  have x61 : x.2 a 61 = id := by rw [xm, if_neg (by decide), if_pos rfl]
  have hzx : ∀ b, zV x b = zV z b := fun b => zV_congr (xa 4 (by omega)) b
  have hw : WK y BP R tk PP (ch ++ [x.1 8]) := hx.node (by omega) hpn hy (by omega) hn2 (by omega) (by omega) (fun q => by omega) (fun _ => by
    rw [x6, x61, hzx, xa 7 (by omega)]
    rcases ho4 with q | ⟨-, q1, q2, q3⟩
    · exact Or.inl q
    · exact Or.inr ⟨q1, q2, fun b hb => by rw [hzx]; exact q3 b hb⟩) (by rw [x1]; exact hse)
  obtain ⟨p4, p5, p6, p9, pA, pr, ps, pu, -⟩ := _root_.id hpn
  have V : zV y (z.1 8) = cutW (ndW (x.2 a) n 0 (x.1 11) (y.1 8)) := by rw [hpn.V, if_pos (by rw [x1])]
  have Vlo : ∀ i, i < 59 → zV y (z.1 8) i = x.2 a i := fun i hi => by rw [V, cutW_lo (by omega), ndW_lo _ _ _ _ _ hi]
  refine Ev.ret ⟨y, _, rfl, hw, hkx.trans hpn.kw, fun c c4 c5 c6 c9 c10 c11 c12 ca => ?_, fun i hi => ?_, fun k k7 k8 k10 => ?_, ?_, fun i hi => ?_, ?_, ?_, ?_⟩
  · rw [pr c c4 c5 c6 c9 c10 c11 c12 ca, xa c ca]
  · rw [pA, ndW_lo _ _ _ _ _ (by omega), xm, if_neg (by omega), if_neg (by omega)]
  · rw [ps k k7 k8 k10, x1]
  · rw [p6, x6, x1]
  · rw [Vlo i (by omega), xm, if_neg (by omega), if_neg (by omega)]
  · rw [Vlo 58 (by decide), xm, if_pos rfl]
  · rw [V]; exact x61
  · omega
theorem storeNode_s {FU : Nat} (hF : 140000 < FU) {z z0 : NSt} {R : TRE} {tk : TKS} {PP : Nat → Nat} {ch : List Nat} {id : Nat} {bp : Nat → Nat} {dirty : Nat → Prop} (h : MIC z z0 R tk PP ch id bp dirty) (i1 : 1 ≤ id) (i2 : id ≤ 250) {o a lvl : Nat} (ha : (o = 0 ∧ a = 14 ∧ lvl = 2) ∨ (1 ≤ o ∧ o ≤ 7 ∧ a = 15 ∧ lvl = 1)) (hU : 33 ≤ Uz z) (hse : z.1 11 < 2 ^ 32) (hK : KC z < 1797) :
    Ev (Fil_storeNode FU a (nI (nuI z o)) (nI lvl) (up z)) fun r => ∃ y ch' n', r = (nI n', up y) ∧ WK y (va_up (BPL (zV z0) (z0.2 6)) id bp) R tk PP ch' ∧ SN z y id o n' a lvl := by
  have hw := h.wk
  have hla : lenF a = 64 := by rcases ha with ⟨-, rfl, -⟩ | ⟨-, -, rfl, -⟩ <;> rfl
  have ho7 : o ≤ 7 := by omega
  have hnu : nuI z o < 2 ^ 32 := by
    by_cases c : nuI z o = 0
    · omega
    · have := (h.rg o ho7 c).2.1
      omega
  unfold Fil_storeNode
  refine (isEmpty_s (by omega) (by omega) (hw.wd a (by omega) (by omega))).bd ?_
  rintro v (⟨rfl, hemp⟩ | ⟨rfl, hne⟩)
  · rw [if_neg (by decide)]
    by_cases c : nuI z o = 0
    · rw [c, dropNode_0 FU hw.lg, Option.bind_some]
      exact Ev.ret ⟨z, ch, 0, rfl, hw, ⟨KW.rf z, fun _ _ _ => rfl, fun _ _ => rfl, fun _ _ _ _ _ => rfl, ⟨fun _ _ => rfl, rfl⟩, fun _ _ _ => rfl, Or.inl ⟨rfl, hemp, fun q => absurd c q, rfl⟩, Nat.le_refl _⟩⟩
    · obtain ⟨r1, r2, r3, r4, r5⟩ := h.rg o ho7 c
      rw [dropNode_z FU hw.lg hw.pb (by omega) r2, Option.bind_some]
      have hg := hw.gone (nuI z o)
      obtain ⟨X, eX⟩ : ∃ X, X = drpZ (z.2 6 (nuI z o)) z := ⟨_, rfl⟩
      obtain ⟨Y, eY⟩ : ∃ Y, Y = zA X 6 (nuI z o) 0 := ⟨_, rfl⟩
      rw [← eX, ← eY] at hg ⊢
      have x2 : ∀ b, b ≠ 9 → b ≠ 10 → b ≠ 11 → X.2 b = z.2 b := fun b x y w => by rw [eX, drp_2 _ _ x y w]
      have y2 : ∀ b, b ≠ 6 → b ≠ 9 → b ≠ 10 → b ≠ 11 → Y.2 b = z.2 b := fun b b6 x y w => by rw [eY, zA2, if_neg b6, x2 b x y w]
      have y1 : Y.1 = z.1 := by rw [eY, zA1, eX, drp_1]
      have uY : Uz Y = Uz z := Uz_frame (fun k _ _ => by rw [y1])
      have y6 : Y.2 6 = va_up (z.2 6) (nuI z o) 0 := by rw [eY, zA2, if_pos rfl, x2 6 (by decide) (by decide) (by decide)]
      refine Ev.ret ⟨Y, ch, 0, rfl, hg, ⟨KW.of4 (y2 4 (by decide) (by decide) (by decide) (by decide)) (y2 5 (by decide) (by decide) (by decide) (by decide)), fun c hc _ => y2 c (by omega) (by omega) (by omega) (by omega), fun i _ => by rw [y2 a (by omega) (by omega) (by omega) (by omega)], fun k _ _ _ _ => by rw [y1], ⟨fun c hc => y2 c (by omega) (by omega) (by omega) (by omega), y2 8 (by decide) (by decide) (by decide) (by decide)⟩, fun m _ q => by rw [y6, va_up_ne _ _ q], Or.inl ⟨rfl, hemp, fun _ => by rw [y6, va_up_self], uY⟩, ?_⟩⟩
      rw [uY, KC_congr (y2 7 (by decide) (by decide) (by decide) (by decide))]
      exact Nat.le_refl _
  · rw [if_pos i00]
    by_cases c : nuI z o = 0
    · rw [c, if_pos i00]
      refine (Tab_giveNumber_z z (by omega) (fun n => hw.wd 7 (by decide) (by decide) n) (KC_free hK)).bd ?_
      rintro _ ⟨q, q1, q2, q3, rfl⟩
      obtain ⟨k1, k2⟩ := hw.co.kp q (by omega) q2 q3
      have hPq : z.2 6 q = 0 := by
        refine Classical.byContradiction (fun w => ?_)
        have hle := hw.co.le q w
        rcases LE_val (zV z) q ch PP with ⟨v1, v2⟩ | ⟨v1, v2⟩
        · rw [v1, k1] at hle; exact w hle
        · exact k2 _ v1 v2
      obtain ⟨x, ex⟩ : ∃ x, x = zA z 7 q 1 := ⟨_, rfl⟩
      have xa : ∀ c, c ≠ 7 → x.2 c = z.2 c := fun c hc => by rw [ex, zA2, if_neg hc]
      have x1 : x.1 = z.1 := by rw [ex]; rfl
      have x7 : ∀ n, x.2 7 n = if n = q then 1 else z.2 7 n := fun n => by rw [ex, zA2, if_pos rfl]; rfl
      have hx : WK x (va_up (BPL (zV z0) (z0.2 6)) id bp) R tk PP ch := by
        refine hw.mem (fun k _ _ => by rw [x1]) (fun b _ _ b7 _ => xa b b7) (fun n _ => ?_) (fun b b1 b2 i => ?_)
        · rw [x7]
          by_cases e : n = q
          · right
            rw [if_pos e]
            exact ⟨by omega, by decide⟩
          · left
            rw [if_neg e]
        · by_cases e : b = 7
          · rw [e, x7]
            split
            · decide
            · exact hw.wd 7 (by decide) (by decide) i
          · rw [xa b e]; exact hw.wd b b1 b2 i
      have ux : Uz x = Uz z := Uz_frame (fun k _ _ => by rw [x1])
      rw [← ex]
      have hzx : ∀ b, zV x b = zV z b := fun b => zV_congr (xa 4 (by decide)) b
      refine (storeNode_b hF hx (id := id) (a := a) (lvl := lvl) (n := q) (by omega) (by rw [x1]; exact h.hid) i1 i2 (by omega) (by omega) (by rw [x1]; exact hse) (by omega) q2 (Or.inr ⟨by rw [xa 6 (by decide)]; exact hPq, by rw [x7, if_pos rfl]; decide, k1, fun b hb => by rw [hzx]; exact k2 b hb⟩)).mono ?_
      rintro _ ⟨y, ch', rfl, w', kw', ar', aa', sc', p6, v1, v2, v3, u'⟩
      have e8 := hw.lg.end8
      have y6q : y.2 6 q = z.1 8 := by rw [p6, va_up_self, x1]
      rw [x1] at v1 v2 v3
      have hKx : KC x = KC z + 1 := by rw [ex]; exact KC_up q1 q2 q3
      have hKy : KC y = KC x := KC_congr (ar' 7 (by decide) (by decide) (by decide) (by decide) (by decide) (by decide) (by decide) (by omega))
      refine ⟨y, ch', q, rfl, w', ⟨(KW.of4 (xa 4 (by decide)) (xa 5 (by decide))).trans kw', fun d hd hda => ?_, fun i hi => ?_, fun k k7 k8 _ k10 => by rw [sc' k k7 k8 k10, x1], ⟨fun d hd => ?_, ?_⟩, fun m m1 _ => ?_, Or.inr ⟨by omega, by omega, q2, by omega, by rw [y6q]; exact v3, by rw [y6q]; exact v2, fun i hi => ?_, hne, fun w => absurd c w, fun _ => hPq, by omega⟩, by omega⟩⟩
      · rw [ar' d (by omega) (by omega) (by omega) (by omega) (by omega) (by omega) (by omega) hda, xa d (by omega)]
      · rw [aa' i hi, xa a (by omega)]
      · rw [ar' d (by omega) (by omega) (by omega) (by omega) (by omega) (by omega) (by omega) (by omega), xa d (by omega)]
      · rw [ar' 8 (by decide) (by decide) (by decide) (by decide) (by decide) (by decide) (by decide) (by omega), xa 8 (by decide)]
      · rw [p6, va_up_ne _ _ m1, xa 6 (by decide)]
      · rw [y6q, v1 i (by omega), xa a (by omega)]
    · obtain ⟨r1, r2, r3, r4, r5⟩ := h.rg o ho7 c
      rw [if_neg (ne0_I hnu c)]
      refine (storeNode_b hF hw (id := id) (a := a) (lvl := lvl) (n := nuI z o) (by omega) h.hid i1 i2 (by omega) hU hse r1 r2 (Or.inl ⟨r3, r4⟩)).mono ?_
      rintro _ ⟨y, ch', rfl, w', kw', ar', aa', sc', p6, v1, v2, v3, u'⟩
      have e8 := hw.lg.end8
      have y6q : y.2 6 (nuI z o) = z.1 8 := by rw [p6, va_up_self]
      have hKy : KC y = KC z := KC_congr (ar' 7 (by decide) (by decide) (by decide) (by decide) (by decide) (by decide) (by decide) (by omega))
      refine ⟨y, ch', nuI z o, rfl, w', ⟨kw', fun d hd hda => ar' d (by omega) (by omega) (by omega) (by omega) (by omega) (by omega) (by omega) hda, aa', fun k k7 k8 _ k10 => sc' k k7 k8 k10, ⟨fun d hd => ar' d (by omega) (by omega) (by omega) (by omega) (by omega) (by omega) (by omega) (by omega), ar' 8 (by decide) (by decide) (by decide) (by decide) (by decide) (by decide) (by decide) (by omega)⟩, fun m m1 _ => by rw [p6, va_up_ne _ _ m1], Or.inr ⟨c, r1, r2, by omega, by rw [y6q]; exact v3, by rw [y6q]; exact v2, fun i hi => by rw [y6q, v1 i (by omega)], hne, fun _ => rfl, fun w => absurd w c, by omega⟩, by omega⟩⟩
