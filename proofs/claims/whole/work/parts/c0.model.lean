/-! the model: its state as numbers, against the same abstract state -/
/-- a byte as the model keeps it -/
def sxN (b : Nat) : Nat := if b < 128 then b else b + 4294967040
theorem sxN_lt {b : Nat} (h : b < 256) : sxN b < 2 ^ 32 := by
  unfold sxN
  split <;> omega
theorem sxN_md {b : Nat} (h : b < 256) : sxN b % 256 = b := by
  unfold sxN
  split <;> omega
theorem sxN_inj {a b : Nat} (ha : a < 256) (hb : b < 256) (h : sxN a = sxN b) : a = b := by
  rw [← sxN_md ha, ← sxN_md hb, h]
theorem sx_dec : ∀ b, b < 256 → (nI b).toInt8.toInt32 = nI (sxN b) := by decide +kernel
theorem sx8 (v : Nat) : (nI v).toInt8 = (nI (v % 256)).toInt8 := by
  refine Int8.toBitVec_inj.mp ?_
  rw [Int32.toBitVec_toInt8, Int32.toBitVec_toInt8, BitVec.signExtend_eq_setWidth_of_le _ (by decide), BitVec.signExtend_eq_setWidth_of_le _ (by decide)]
  refine BitVec.eq_of_toNat_eq ?_
  rw [BitVec.toNat_setWidth, BitVec.toNat_setWidth]
  show v % 2 ^ 32 % 2 ^ 8 = v % 256 % 2 ^ 32 % 2 ^ 8
  omega
theorem nby_n (v : Nat) : nby (nI v) = nI (sxN (v % 256)) := by
  unfold nby
  rw [vp_nar_byte, sx8, sx_dec _ (Nat.mod_lt _ (by decide))]
theorem nby_s {b : Nat} (h : b < 256) : nby (nI (sxN b)) = nI (sxN b) := by
  rw [nby_n, sxN_md h]
theorem nby_b {v : Nat} : nby (nI v).toInt8.toInt32 = nI (sxN (v % 256)) := by
  rw [sx8, sx_dec _ (Nat.mod_lt _ (by decide)), nby_s (Nat.mod_lt _ (by decide))]
/-- one list of entries: arrays of directories, ids, lengths, names -/
def nmK (w : NSt) (bl bn k : Nat) : Nat := hn 256 (fun i => if i < w.2 bl k then w.2 bn (20 * k + i) % 256 else 0) 20
def EN (w : NSt) (bd bi bl bn E : Nat) (ent : Nat → Nat → Nat) : Prop := (E ≤ 2400) ∧ (∀ k, k < E → ent (w.2 bd k) (nmK w bl bn k) = w.2 bi k ∧ w.2 bi k ≠ 0 ∧ w.2 bi k ≤ 250) ∧ (∀ k, k < E → w.2 bd k < 2 ^ 31) ∧ (∀ k, k < E → NL (nmK w bl bn k) (w.2 bl k)) ∧ (∀ k, k < E → ∀ i, i < w.2 bl k → w.2 bn (20 * k + i) = sxN (w.2 bn (20 * k + i) % 256)) ∧ (∀ k k', k < E → k' < E → w.2 bd k = w.2 bd k' → nmK w bl bn k = nmK w bl bn k' → k = k') ∧ (∀ d n, ent d n ≠ 0 → ∃ k, k < E ∧ w.2 bd k = d ∧ nmK w bl bn k = n)
theorem EN.le {w : NSt} {bd bi bl bn E : Nat} {ent : Nat → Nat → Nat} (h9 : EN w bd bi bl bn E ent) : E ≤ 2400 := h9.1
theorem EN.en {w : NSt} {bd bi bl bn E : Nat} {ent : Nat → Nat → Nat} (h9 : EN w bd bi bl bn E ent) : ∀ k, k < E → ent (w.2 bd k) (nmK w bl bn k) = w.2 bi k ∧ w.2 bi k ≠ 0 ∧ w.2 bi k ≤ 250 := h9.2.1
theorem EN.rd {w : NSt} {bd bi bl bn E : Nat} {ent : Nat → Nat → Nat} (h9 : EN w bd bi bl bn E ent) : ∀ k, k < E → w.2 bd k < 2 ^ 31 := h9.2.2.1
theorem EN.nl {w : NSt} {bd bi bl bn E : Nat} {ent : Nat → Nat → Nat} (h9 : EN w bd bi bl bn E ent) : ∀ k, k < E → NL (nmK w bl bn k) (w.2 bl k) := h9.2.2.2.1
theorem EN.by' {w : NSt} {bd bi bl bn E : Nat} {ent : Nat → Nat → Nat} (h9 : EN w bd bi bl bn E ent) : ∀ k, k < E → ∀ i, i < w.2 bl k → w.2 bn (20 * k + i) = sxN (w.2 bn (20 * k + i) % 256) := h9.2.2.2.2.1
theorem EN.dis {w : NSt} {bd bi bl bn E : Nat} {ent : Nat → Nat → Nat} (h9 : EN w bd bi bl bn E ent) : ∀ k k', k < E → k' < E → w.2 bd k = w.2 bd k' → nmK w bl bn k = nmK w bl bn k' → k = k' := h9.2.2.2.2.2.1
theorem EN.all {w : NSt} {bd bi bl bn E : Nat} {ent : Nat → Nat → Nat} (h9 : EN w bd bi bl bn E ent) : ∀ d n, ent d n ≠ 0 → ∃ k, k < E ∧ w.2 bd k = d ∧ nmK w bl bn k = n := h9.2.2.2.2.2.2
/-- one file in one layer -/
def pcN (l id p : Nat) : Nat := (251 * l + id) * 391 + p
def PV (w : NSt) (l id : Nat) (f : FV) : Prop := (w.2 3 (251 * l + id) = f.sz) ∧ (w.2 5 (251 * l + id) = f.sm) ∧ (f.sm = 0 → ∀ p, p < 391 → (w.2 8 (pcN l id p) = neg1 ↔ f.has p = 0)) ∧ (f.sm = 1 → ∀ p, 1 ≤ p → p < 391 → w.2 8 (pcN l id p) = neg1) ∧ (∀ i, i < 100096 → (w.2 8 (pcN l id (i / 256)) = neg1 → f.byt i = 0) ∧ (w.2 8 (pcN l id (i / 256)) ≠ neg1 → w.2 9 (256 * w.2 8 (pcN l id (i / 256)) + i % 256) = sxN (f.byt i)))
theorem PV.sz {w : NSt} {l id : Nat} {f : FV} (h9 : PV w l id f) : w.2 3 (251 * l + id) = f.sz := h9.1
theorem PV.sml {w : NSt} {l id : Nat} {f : FV} (h9 : PV w l id f) : w.2 5 (251 * l + id) = f.sm := h9.2.1
theorem PV.hs {w : NSt} {l id : Nat} {f : FV} (h9 : PV w l id f) : f.sm = 0 → ∀ p, p < 391 → (w.2 8 (pcN l id p) = neg1 ↔ f.has p = 0) := h9.2.2.1
theorem PV.s1 {w : NSt} {l id : Nat} {f : FV} (h9 : PV w l id f) : f.sm = 1 → ∀ p, 1 ≤ p → p < 391 → w.2 8 (pcN l id p) = neg1 := h9.2.2.2.1
theorem PV.by' {w : NSt} {l id : Nat} {f : FV} (h9 : PV w l id f) : ∀ i, i < 100096 → (w.2 8 (pcN l id (i / 256)) = neg1 → f.byt i = 0) ∧ (w.2 8 (pcN l id (i / 256)) ≠ neg1 → w.2 9 (256 * w.2 8 (pcN l id (i / 256)) + i % 256) = sxN (f.byt i)) := h9.2.2.2.2
def PN0 (w : NSt) (l id : Nat) : Prop := ∀ p, p < 391 → w.2 8 (pcN l id p) = neg1
/-- owners -/
noncomputable def NPC : Nat := Classical.choose (⟨294423, rfl⟩ : ∃ N : Nat, N = 294423)
theorem NPC_eq : NPC = 294423 := Classical.choose_spec (⟨294423, rfl⟩ : ∃ N : Nat, N = 294423)
noncomputable def ocN (w : NSt) (x : Nat) : Nat := sm (fun i => if w.2 8 i = x then 1 else 0) NPC
def PO (w : NSt) : Prop := (∀ i, i < 294423 → w.2 8 i = neg1 ∨ w.2 8 i < 6600) ∧ (∀ x, x < 6600 → w.2 10 x = ocN w x) ∧ (w.1 11 < 6600) ∧ (∀ a i, w.2 a i < 2 ^ 32)
theorem PO.pr {w : NSt} (h9 : PO w) : ∀ i, i < 294423 → w.2 8 i = neg1 ∨ w.2 8 i < 6600 := h9.1
theorem PO.oc {w : NSt} (h9 : PO w) : ∀ x, x < 6600 → w.2 10 x = ocN w x := h9.2.1
theorem PO.se {w : NSt} (h9 : PO w) : w.1 11 < 6600 := h9.2.2.1
theorem PO.wd {w : NSt} (h9 : PO w) : ∀ a i, w.2 a i < 2 ^ 32 := h9.2.2.2
def MI (w : NSt) (A : AB) : Prop := (A.dv ≤ 2 ∧ w.1 1 = (if A.dv = 0 then 0 else 1) ∧ w.1 2 = (if A.dv = 2 then 1 else 0)) ∧ (w.1 3 = A.rm ∧ w.1 4 = A.us ∧ w.1 5 = A.fr ∧ w.1 6 = A.tk ∧ w.1 7 = A.fw) ∧ ((A.ct = 0 ∧ w.1 8 = neg1) ∨ (A.ct = 1 ∧ w.1 8 < 2 ^ 31)) ∧ (A.dv ≠ 2 → A.ct = 0) ∧ (w.1 9 = A.tl ∧ A.tl ≤ 2060) ∧ (w.1 10 = A.ol ∧ A.ol ≤ 2000) ∧ (∀ i, i < 2060 → w.2 0 i = sxN (A.tp i) ∧ A.tp i < 256) ∧ (∀ i, i < A.ol → w.2 1 i = sxN (A.tb i) ∧ A.tb i < 256) ∧ (EN w 11 12 13 14 (w.1 12) A.T.ent) ∧ (EN w 15 16 17 18 (w.1 13) A.O.ent) ∧ (∀ id, 1 ≤ id → id ≤ 250 → w.2 2 id = A.T.kd id ∧ w.2 2 (251 + id) = A.O.kd id) ∧ (∀ id, 1 ≤ id → id ≤ 250 → (A.T.kd id = 1 → w.2 4 id = A.T.lk id) ∧ (A.O.kd id = 1 → w.2 4 (251 + id) = A.O.lk id)) ∧ (∀ id, 1 ≤ id → id ≤ 250 → w.2 6 id = if A.S id = true then 1 else 0) ∧ (∀ id, 1 ≤ id → id ≤ 250 → w.2 7 id ≤ 1 ∧ (A.T.kd id = 1 → w.2 7 id = if A.rn id = true then 1 else 0)) ∧ (∀ id, 1 ≤ id → id ≤ 250 → (A.T.kd id = 1 → PV w 0 id (A.T.fil id)) ∧ (A.T.kd id ≠ 1 → PN0 w 0 id)) ∧ (∀ id, 1 ≤ id → id ≤ 250 → (A.O.kd id = 1 → PV w 1 id (A.O.fil id)) ∧ (A.O.kd id ≠ 1 → PN0 w 1 id)) ∧ (∀ id, 1 ≤ id → id ≤ 250 → (A.S id = true → PV w 2 id (A.F id)) ∧ (A.S id ≠ true → PN0 w 2 id)) ∧ (PO w)
theorem MI.dv {w : NSt} {A : AB} (h9 : MI w A) : A.dv ≤ 2 ∧ w.1 1 = (if A.dv = 0 then 0 else 1) ∧ w.1 2 = (if A.dv = 2 then 1 else 0) := h9.1
theorem MI.ms {w : NSt} {A : AB} (h9 : MI w A) : w.1 3 = A.rm ∧ w.1 4 = A.us ∧ w.1 5 = A.fr ∧ w.1 6 = A.tk ∧ w.1 7 = A.fw := h9.2.1
theorem MI.ct {w : NSt} {A : AB} (h9 : MI w A) : (A.ct = 0 ∧ w.1 8 = neg1) ∨ (A.ct = 1 ∧ w.1 8 < 2 ^ 31) := h9.2.2.1
theorem MI.cd {w : NSt} {A : AB} (h9 : MI w A) : A.dv ≠ 2 → A.ct = 0 := h9.2.2.2.1
theorem MI.tl {w : NSt} {A : AB} (h9 : MI w A) : w.1 9 = A.tl ∧ A.tl ≤ 2060 := h9.2.2.2.2.1
theorem MI.ol {w : NSt} {A : AB} (h9 : MI w A) : w.1 10 = A.ol ∧ A.ol ≤ 2000 := h9.2.2.2.2.2.1
theorem MI.tp {w : NSt} {A : AB} (h9 : MI w A) : ∀ i, i < 2060 → w.2 0 i = sxN (A.tp i) ∧ A.tp i < 256 := h9.2.2.2.2.2.2.1
theorem MI.tb {w : NSt} {A : AB} (h9 : MI w A) : ∀ i, i < A.ol → w.2 1 i = sxN (A.tb i) ∧ A.tb i < 256 := h9.2.2.2.2.2.2.2.1
theorem MI.en {w : NSt} {A : AB} (h9 : MI w A) : EN w 11 12 13 14 (w.1 12) A.T.ent := h9.2.2.2.2.2.2.2.2.1
theorem MI.eo {w : NSt} {A : AB} (h9 : MI w A) : EN w 15 16 17 18 (w.1 13) A.O.ent := h9.2.2.2.2.2.2.2.2.2.1
theorem MI.kd {w : NSt} {A : AB} (h9 : MI w A) : ∀ id, 1 ≤ id → id ≤ 250 → w.2 2 id = A.T.kd id ∧ w.2 2 (251 + id) = A.O.kd id := h9.2.2.2.2.2.2.2.2.2.2.1
theorem MI.lk {w : NSt} {A : AB} (h9 : MI w A) : ∀ id, 1 ≤ id → id ≤ 250 → (A.T.kd id = 1 → w.2 4 id = A.T.lk id) ∧ (A.O.kd id = 1 → w.2 4 (251 + id) = A.O.lk id) := h9.2.2.2.2.2.2.2.2.2.2.2.1
theorem MI.sy {w : NSt} {A : AB} (h9 : MI w A) : ∀ id, 1 ≤ id → id ≤ 250 → w.2 6 id = if A.S id = true then 1 else 0 := h9.2.2.2.2.2.2.2.2.2.2.2.2.1
theorem MI.rn {w : NSt} {A : AB} (h9 : MI w A) : ∀ id, 1 ≤ id → id ≤ 250 → w.2 7 id ≤ 1 ∧ (A.T.kd id = 1 → w.2 7 id = if A.rn id = true then 1 else 0) := h9.2.2.2.2.2.2.2.2.2.2.2.2.2.1
theorem MI.f0 {w : NSt} {A : AB} (h9 : MI w A) : ∀ id, 1 ≤ id → id ≤ 250 → (A.T.kd id = 1 → PV w 0 id (A.T.fil id)) ∧ (A.T.kd id ≠ 1 → PN0 w 0 id) := h9.2.2.2.2.2.2.2.2.2.2.2.2.2.2.1
theorem MI.f1 {w : NSt} {A : AB} (h9 : MI w A) : ∀ id, 1 ≤ id → id ≤ 250 → (A.O.kd id = 1 → PV w 1 id (A.O.fil id)) ∧ (A.O.kd id ≠ 1 → PN0 w 1 id) := h9.2.2.2.2.2.2.2.2.2.2.2.2.2.2.2.1
theorem MI.f2 {w : NSt} {A : AB} (h9 : MI w A) : ∀ id, 1 ≤ id → id ≤ 250 → (A.S id = true → PV w 2 id (A.F id)) ∧ (A.S id ≠ true → PN0 w 2 id) := h9.2.2.2.2.2.2.2.2.2.2.2.2.2.2.2.2.1
theorem MI.po {w : NSt} {A : AB} (h9 : MI w A) : PO w := h9.2.2.2.2.2.2.2.2.2.2.2.2.2.2.2.2.2
/-- what the abstract state's trees are -/
def AT (A : AB) : Prop := (TFA A.T) ∧ (TFA A.O) ∧ (∀ i, A.S i = true → FVK (A.F i))
theorem AT.t {A : AB} (h9 : AT A) : TFA A.T := h9.1
theorem AT.o {A : AB} (h9 : AT A) : TFA A.O := h9.2.1
theorem AT.f {A : AB} (h9 : AT A) : ∀ i, A.S i = true → FVK (A.F i) := h9.2.2
/-- thrown as the model says it -/
def thw (w : NSt) (c : Nat) : NSt := zI w 0 c
theorem throwing_z (FU : Nat) (w : NSt) {a b : Nat} (ha : a ≤ 1) (hb : b ≤ 1) : Mod_throwing FU (nI a) (nI b) (up w) = some (nI (if a = 1 ∨ b = 1 then 1 else 0), up (thw w (if a = 1 then 1 else if b = 1 then 2 else 0))) := by
  unfold Mod_throwing Mod_throwing_b18 thw
  rcases (show a = 0 ∨ a = 1 by omega) with rfl | rfl
  · rw [if_pos i00, if_neg (show ¬ (0 : Nat) = 1 by decide)]
    rcases (show b = 0 ∨ b = 1 by omega) with rfl | rfl
    · rw [if_pos i00, nx_eq, show (0 : Int32) = nI 0 from rfl, up_I, up1, zI1, if_pos rfl, if_neg (show ¬ (0 : Nat) = 1 by decide), if_pos (show nI 0 ≤ nI 0 by decide), if_neg (by omega)]
    · rw [if_neg (show ¬ nI 1 = (0 : Int32) by decide), nx_eq, show (2 : Int32) = nI 2 from rfl, up_I, up1, zI1, if_pos rfl, if_pos rfl, if_neg (show ¬ nI 2 ≤ (0 : Int32) by decide), if_pos (Or.inr rfl)]
      rfl
  · rw [if_neg (show ¬ nI 1 = (0 : Int32) by decide), nx_eq, show (1 : Int32) = nI 1 from rfl, up_I, up1, zI1, if_pos rfl, if_pos rfl, if_neg (show ¬ nI 1 ≤ (0 : Int32) by decide), if_pos (Or.inl rfl)]
theorem in_z (FU : Nat) (g : St) {v lo hi : Nat} (hv : v < 2 ^ 32) (hl : lo < 2 ^ 31) (hh : hi < 2 ^ 31) : Mod_in FU (nI v) (nI lo) (nI hi) g = some (nI (if lo ≤ v ∧ v ≤ hi then 1 else 0)) := by
  unfold Mod_in
  by_cases c : nI v < nI lo
  · rw [if_pos c]
    rw [sLt hv hl] at c
    rw [if_neg (by omega)]; rfl
  · rw [if_neg c]
    rw [sLt hv hl] at c
    by_cases d : nI hi < nI v
    · rw [if_pos d]
      rw [sGt hh hv] at d
      rw [if_neg (by omega)]; rfl
    · rw [if_neg d]
      rw [sGt hh hv] at d
      rw [if_pos (by omega)]; rfl
theorem isOff_z (FU : Nat) {w : NSt} {A : AB} (h : MI w A) : Mod_isOff FU (up w) = some (nI (if A.dv = 2 then 0 else 1), up (thw w (if A.dv = 2 then 0 else 2))) := by
  unfold Mod_isOff Mod_isOff_b14
  rw [up1, h.dv.2.2]
  by_cases c : A.dv = 2
  · rw [if_pos c, if_neg (show ¬ nI 1 = (0 : Int32) by decide), show (0 : Int32) = nI 0 from rfl, throwing_z FU w (by decide) (by decide), Option.bind_some]
    refine (if_pos (Or.inl rfl)).trans ?_
    rw [if_pos c, if_pos c]
    rfl
  · rw [if_neg c, if_pos i00, show (1 : Int32) = nI 1 from rfl, show (0 : Int32) = nI 0 from rfl, throwing_z FU w (by decide) (by decide), Option.bind_some]
    refine (if_pos (Or.inr rfl)).trans ?_
    rw [if_neg c, if_neg c]
    rfl
/-- rows that are not touched -/
theorem EN.keep {w y : NSt} {bd bi bl bn E : Nat} {ent : Nat → Nat → Nat} (h : EN w bd bi bl bn E ent) (h1 : y.2 bd = w.2 bd) (h2 : y.2 bi = w.2 bi) (h3 : y.2 bl = w.2 bl) (h4 : y.2 bn = w.2 bn) : EN y bd bi bl bn E ent := by
  have e : ∀ k, nmK y bl bn k = nmK w bl bn k := fun k => by
    unfold nmK
    rw [h3, h4]
  refine ⟨h.le, fun k hk => ?_, fun k hk => ?_, fun k hk => ?_, fun k hk i hi => ?_, fun k k' hk hk' a b => ?_, fun d n q => ?_⟩
  · rw [e, h1, h2]; exact h.en k hk
  · rw [h1]; exact h.rd k hk
  · rw [e, h3]; exact h.nl k hk
  · rw [h4]
    rw [h3] at hi
    exact h.by' k hk i hi
  · rw [h1] at a
    rw [e, e] at b
    exact h.dis k k' hk hk' a b
  · obtain ⟨k, k1, k2, k3⟩ := h.all d n q
    exact ⟨k, k1, by rw [h1]; exact k2, by rw [e]; exact k3⟩
theorem PV.keep {w y : NSt} {l id : Nat} {f : FV} (h : PV w l id f) (h3 : y.2 3 = w.2 3) (h5 : y.2 5 = w.2 5) (h8 : y.2 8 = w.2 8) (h9 : y.2 9 = w.2 9) : PV y l id f := by
  refine ⟨?_, ?_, ?_, ?_, ?_⟩
  · rw [h3]; exact h.sz
  · rw [h5]; exact h.sml
  · rw [h8]; exact h.hs
  · rw [h8]; exact h.s1
  · rw [h8, h9]; exact h.by'
theorem PO.keep {w y : NSt} (h : PO w) (h1 : y.1 11 < 6600) (h8 : y.2 8 = w.2 8) (h10 : y.2 10 = w.2 10) (hw : ∀ a i, y.2 a i < 2 ^ 32) : PO y := by
  refine ⟨?_, ?_, h1, hw⟩
  · rw [h8]; exact h.pr
  · rw [h10]
    unfold ocN
    rw [h8]
    exact h.oc
/-- only what is told of the tree and of the calls -/
theorem MI.io {w y : NSt} {A B : AB} (h : MI w A) (hs : ∀ k, k = 11 ∨ k = 12 ∨ k = 13 → y.1 k = w.1 k) (ha : ∀ a, 2 ≤ a → y.2 a = w.2 a) (hw : ∀ a i, y.2 a i < 2 ^ 32) (dv : B.dv ≤ 2 ∧ y.1 1 = (if B.dv = 0 then 0 else 1) ∧ y.1 2 = (if B.dv = 2 then 1 else 0)) (ms : y.1 3 = B.rm ∧ y.1 4 = B.us ∧ y.1 5 = B.fr ∧ y.1 6 = B.tk ∧ y.1 7 = B.fw) (ct : (B.ct = 0 ∧ y.1 8 = neg1) ∨ (B.ct = 1 ∧ y.1 8 < 2 ^ 31)) (cd : B.dv ≠ 2 → B.ct = 0) (tl : y.1 9 = B.tl ∧ B.tl ≤ 2060) (ol : y.1 10 = B.ol ∧ B.ol ≤ 2000) (tp : ∀ i, i < 2060 → y.2 0 i = sxN (B.tp i) ∧ B.tp i < 256) (tb : ∀ i, i < B.ol → y.2 1 i = sxN (B.tb i) ∧ B.tb i < 256) (eT : B.T = A.T) (eO : B.O = A.O) (eS : B.S = A.S) (eF : B.F = A.F) (er : B.rn = A.rn) : MI y B := by
  refine ⟨dv, ms, ct, cd, tl, ol, tp, tb, ?_, ?_, ?_, ?_, ?_, ?_, ?_, ?_, ?_, ?_⟩
  · rw [hs 12 (by omega), eT]; exact h.en.keep (ha 11 (by decide)) (ha 12 (by decide)) (ha 13 (by decide)) (ha 14 (by decide))
  · rw [hs 13 (by omega), eO]; exact h.eo.keep (ha 15 (by decide)) (ha 16 (by decide)) (ha 17 (by decide)) (ha 18 (by decide))
  · rw [ha 2 (by decide), eT, eO]; exact h.kd
  · rw [ha 4 (by decide), eT, eO]; exact h.lk
  · rw [ha 6 (by decide), eS]; exact h.sy
  · rw [ha 7 (by decide), eT, er]; exact h.rn
  · intro id i1 i2
    rw [eT]
    refine ⟨fun q => ((h.f0 id i1 i2).1 q).keep (ha 3 (by decide)) (ha 5 (by decide)) (ha 8 (by decide)) (ha 9 (by decide)), fun q p hp => ?_⟩
    rw [ha 8 (by decide)]; exact (h.f0 id i1 i2).2 q p hp
  · intro id i1 i2
    rw [eO]
    refine ⟨fun q => ((h.f1 id i1 i2).1 q).keep (ha 3 (by decide)) (ha 5 (by decide)) (ha 8 (by decide)) (ha 9 (by decide)), fun q p hp => ?_⟩
    rw [ha 8 (by decide)]; exact (h.f1 id i1 i2).2 q p hp
  · intro id i1 i2
    rw [eS, eF]
    refine ⟨fun q => ((h.f2 id i1 i2).1 q).keep (ha 3 (by decide)) (ha 5 (by decide)) (ha 8 (by decide)) (ha 9 (by decide)), fun q p hp => ?_⟩
    rw [ha 8 (by decide)]; exact (h.f2 id i1 i2).2 q p hp
  · exact h.po.keep (by rw [hs 11 (by omega)]; exact h.po.se) (ha 8 (by decide)) (ha 10 (by decide)) hw
theorem MI.tw {w : NSt} {A : AB} (h : MI w A) (c : Nat) : MI (thw w c) A :=
  h.io (fun k hk => by unfold thw; rw [zI1, if_neg (by omega)]) (fun a _ => rfl) h.po.wd h.dv h.ms h.ct h.cd h.tl h.ol h.tp h.tb rfl rfl rfl rfl rfl
theorem MI.tl0 {w : NSt} {A : AB} (h : MI w A) : MI (zI w 9 0) (A.w_tl 0) :=
  h.io (fun k hk => by rw [zI1, if_neg (by omega)]) (fun a _ => rfl) h.po.wd h.dv h.ms h.ct h.cd ⟨rfl, Nat.zero_le _⟩ h.ol h.tp h.tb rfl rfl rfl rfl rfl
/-- an answer of the model: thrown, the value, the state -/
def AnsM (o : Option (Int32 × St)) (c : Nat) (r : ANS) : Prop := Ev o (fun q => ∃ y, q.2 = up y ∧ y.1 0 = c ∧ (c = 0 → q.1 = nI r.2.1) ∧ MI y r.2.2)
def AnsV (o : Option St) (c : Nat) (r : ANS) : Prop := Ev o (fun q => ∃ y, q = up y ∧ y.1 0 = c ∧ MI y r.2.2)
theorem thw0 (w : NSt) (c : Nat) : (thw w c).1 0 = c := by
  unfold thw
  rw [zI1, if_pos rfl]
theorem isId_z (FU : Nat) (g : St) {v : Nat} (hv : v < 2 ^ 32) : Mod_isId FU (nI v) g = some (nI (if 1 ≤ v ∧ v ≤ 250 then 1 else 0)) := by
  unfold Mod_isId
  rw [show (1 : Int32) = nI 1 from rfl, show (250 : Int32) = nI 250 from rfl, in_z FU g hv (by decide) (by decide), Option.bind_some]
  by_cases c : 1 ≤ v ∧ v ≤ 250
  · rw [if_pos c, if_pos (Or.inr rfl)]
  · rw [if_neg c, if_pos (show nI 0 = (0 : Int32) ∨ nI 0 = nI 1 from Or.inl rfl)]
theorem MI.kd0 {w : NSt} {A : AB} (h : MI w A) (hT : TFA A.T) {v : Nat} (hv : ¬ (1 ≤ v ∧ v ≤ 250)) : A.T.kd v = 0 := Classical.byContradiction (fun q => by
  have := hT.rng v q
  omega)
theorem is_z (FU : Nat) {w : NSt} {A : AB} (h : MI w A) (hT : TFA A.T) {v k : Nat} (hv : v < 2 ^ 32) (hk : k = 1 ∨ k = 2) : Mod_is FU (nI v) (nI k) (up w) = some (nI (if A.T.kd v = k then 1 else 0)) := by
  unfold Mod_is
  rw [isId_z FU _ hv, Option.bind_some]
  by_cases c : 1 ≤ v ∧ v ≤ 250
  · have hkb := h.po.wd 2 v
    rw [(h.kd v c.1 c.2).1] at hkb
    rw [if_pos c, if_neg (show ¬ nI 1 = (0 : Int32) by decide), rdA_z w 2 (by omega) (by decide), Option.bind_some, (h.kd v c.1 c.2).1]
    by_cases d : A.T.kd v = k
    · rw [if_pos (by rw [d]), if_pos d]; rfl
    · rw [if_neg (fun q => d ((nI_inj hkb (by omega)).mp q)), if_neg d]; rfl
  · rw [if_neg c, if_pos i00, h.kd0 hT c, if_neg (by omega)]; rfl
