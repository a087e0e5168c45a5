/-! what the device holds: files and directories -/
def cutW (f : Nat → Nat) (i : Nat) : Nat := if i < 64 then f i else 0
def zV (z : NSt) (b : Nat) : Nat → Nat := cutW (zW z b)
theorem zV_W {z : NSt} {b i : Nat} (h : i < 64) : zV z b i = zW z b i := if_pos h
theorem cutW_lo {f : Nat → Nat} {i : Nat} (h : i < 64) : cutW f i = f i := if_pos h
theorem cutW_congr {f g : Nat → Nat} (h : ∀ i, i < 64 → f i = g i) : cutW f = cutW g := by
  funext i
  unfold cutW
  split
  · rename_i q; exact h i q
  · rfl
theorem PN.V {z y : NSt} {a n k : Nat} (h : PN z a n k y) (b : Nat) : zV y b = if b = z.1 8 then cutW (ndW (z.2 a) n k (z.1 11) (y.1 8)) else zV z b := by
  by_cases c : b = z.1 8
  · rw [if_pos c]
    exact cutW_congr (fun i hi => by rw [h.W _ _ hi, if_pos c])
  · rw [if_neg c]
    exact cutW_congr (fun i hi => by rw [h.W _ _ hi, if_neg c])
theorem PD.V {z y : NSt} {a : Nat} (h : PD z a y) (b : Nat) : zV y b = if b = z.1 9 then cutW (z.2 a) else zV z b := by
  by_cases c : b = z.1 9
  · rw [if_pos c]
    exact cutW_congr (fun i hi => by rw [h.W _ _ hi, if_pos c])
  · rw [if_neg c]
    exact cutW_congr (fun i hi => by rw [h.W _ _ hi, if_neg c])
theorem zV_congr {z y : NSt} (h : y.2 4 = z.2 4) (b : Nat) : zV y b = zV z b := by
  unfold zV zW
  rw [h]
/-- a file as it reads -/
def FV : Type := Nat × Nat × (Nat → Nat) × (Nat → Nat)
def FV.sz (f : FV) : Nat := f.1
def FV.sm (f : FV) : Nat := f.2.1
def FV.has (f : FV) : Nat → Nat := f.2.2.1
def FV.byt (f : FV) : Nat → Nat := f.2.2.2
def FV.of (sz sm : Nat) (has byt : Nat → Nat) : FV := (sz, sm, has, byt)
/-- all files and directories -/
def TRE : Type := (Nat → Nat) × (Nat → Nat) × (Nat → Nat) × (Nat → Nat → Nat) × (Nat → FV)
def TRE.kd (T : TRE) : Nat → Nat := T.1
def TRE.lk (T : TRE) : Nat → Nat := T.2.1
def TRE.par (T : TRE) : Nat → Nat := T.2.2.1
def TRE.ent (T : TRE) : Nat → Nat → Nat := T.2.2.2.1
def TRE.fil (T : TRE) : Nat → FV := T.2.2.2.2
def TRE.of (kd lk par : Nat → Nat) (ent : Nat → Nat → Nat) (fil : Nat → FV) : TRE := (kd, lk, par, ent, fil)
def TRE.wLk (T : TRE) (x : Nat → Nat) : TRE := (T.1, x, T.2.2)
def TRE.wPar (T : TRE) (x : Nat → Nat) : TRE := (T.1, T.2.1, x, T.2.2.2)
def TRE.wEnt (T : TRE) (x : Nat → Nat → Nat) : TRE := (T.1, T.2.1, T.2.2.1, x, T.2.2.2.2)
def TRE.wFil (T : TRE) (x : Nat → FV) : TRE := (T.1, T.2.1, T.2.2.1, T.2.2.2.1, x)
def NB (W : Nat → Nat → Nat) (P : Nat → Nat) (id j : Nat) : Nat := if j = 0 then W (P id) 28 else if j < 3 then W (P id) (25 + j) else if W (P id) 28 = 0 then 0 else W (P (W (P id) 28)) (j - 3)
def bpF (W : Nat → Nat → Nat) (P : Nat → Nat) (id k : Nat) : Nat := if k < 20 then W (P id) (6 + k) else if NB W P id (1 + (k - 20) / 56) = 0 then 0 else W (P (NB W P id (1 + (k - 20) / 56))) ((k - 20) % 56)
def BPL (W : Nat → Nat → Nat) (P : Nat → Nat) (id k : Nat) : Nat := if P id = 0 ∨ 250 < id then 0 else if W (P id) 0 = 2 then (if k < 48 then W (P id) (6 + k) % 4096 else 0) else if k < 412 then bpF W P id k else 0
def byB (W : Nat → Nat → Nat) (b i : Nat) : Nat := if b = 0 then 0 else gb (W b) i
def byI (W : Nat → Nat → Nat) (I bp : Nat → Nat) (i : Nat) : Nat := if I 3 = 1 then (if i < 96 then gb (fun j => I (30 + j)) i else 0) else byB W (bp (i / 256)) (i % 256)
def FOK (W : Nat → Nat → Nat) (I bp : Nat → Nat) (f : FV) : Prop := (I 1 = f.sz) ∧ (f.sz ≤ 100000) ∧ (I 3 = f.sm) ∧ (f.sm ≤ 1) ∧ (f.sm = 1 → f.sz ≤ 96 ∧ ∀ k, k < 412 → bp k = 0) ∧ (∀ k, k < 412 → f.has k = if bp k = 0 then 0 else 1) ∧ (I 4 = sm (fun k => if bp k = 0 then 0 else 1) 412) ∧ (∀ k, k < 412 → bp k ≠ 0 → 256 * k < f.sz) ∧ (∀ i, i < 105472 → byI W I bp i = f.byt i) ∧ (∀ i, f.sz ≤ i → f.byt i = 0) ∧ (f.sm = 0 → ∀ j, j < 24 → I (30 + j) = 0) ∧ (f.sm = 0 → 0 < f.sz)
theorem FOK.sz {W : Nat → Nat → Nat} {I bp : Nat → Nat} {f : FV} (h9 : FOK W I bp f) : I 1 = f.sz := h9.1
theorem FOK.szb {W : Nat → Nat → Nat} {I bp : Nat → Nat} {f : FV} (h9 : FOK W I bp f) : f.sz ≤ 100000 := h9.2.1
theorem FOK.sml {W : Nat → Nat → Nat} {I bp : Nat → Nat} {f : FV} (h9 : FOK W I bp f) : I 3 = f.sm := h9.2.2.1
theorem FOK.smb {W : Nat → Nat → Nat} {I bp : Nat → Nat} {f : FV} (h9 : FOK W I bp f) : f.sm ≤ 1 := h9.2.2.2.1
theorem FOK.small {W : Nat → Nat → Nat} {I bp : Nat → Nat} {f : FV} (h9 : FOK W I bp f) : f.sm = 1 → f.sz ≤ 96 ∧ ∀ k, k < 412 → bp k = 0 := h9.2.2.2.2.1
theorem FOK.has {W : Nat → Nat → Nat} {I bp : Nat → Nat} {f : FV} (h9 : FOK W I bp f) : ∀ k, k < 412 → f.has k = if bp k = 0 then 0 else 1 := h9.2.2.2.2.2.1
theorem FOK.there {W : Nat → Nat → Nat} {I bp : Nat → Nat} {f : FV} (h9 : FOK W I bp f) : I 4 = sm (fun k => if bp k = 0 then 0 else 1) 412 := h9.2.2.2.2.2.2.1
theorem FOK.lim {W : Nat → Nat → Nat} {I bp : Nat → Nat} {f : FV} (h9 : FOK W I bp f) : ∀ k, k < 412 → bp k ≠ 0 → 256 * k < f.sz := h9.2.2.2.2.2.2.2.1
theorem FOK.byt {W : Nat → Nat → Nat} {I bp : Nat → Nat} {f : FV} (h9 : FOK W I bp f) : ∀ i, i < 105472 → byI W I bp i = f.byt i := h9.2.2.2.2.2.2.2.2.1
theorem FOK.zer {W : Nat → Nat → Nat} {I bp : Nat → Nat} {f : FV} (h9 : FOK W I bp f) : ∀ i, f.sz ≤ i → f.byt i = 0 := h9.2.2.2.2.2.2.2.2.2.1
theorem FOK.inl {W : Nat → Nat → Nat} {I bp : Nat → Nat} {f : FV} (h9 : FOK W I bp f) : f.sm = 0 → ∀ j, j < 24 → I (30 + j) = 0 := h9.2.2.2.2.2.2.2.2.2.2.1
theorem FOK.pos {W : Nat → Nat → Nat} {I bp : Nat → Nat} {f : FV} (h9 : FOK W I bp f) : f.sm = 0 → 0 < f.sz := h9.2.2.2.2.2.2.2.2.2.2.2
def NOK (W : Nat → Nat → Nat) (P : Nat → Nat) (id : Nat) : Prop := (∀ j, j ≤ 7 → NB W P id j ≠ 0 → 250 < NB W P id j ∧ NB W P id j < 2048 ∧ P (NB W P id j) ≠ 0 ∧ W (P (NB W P id j)) 61 = id ∧ W (P (NB W P id j)) 58 = if j = 0 then 2 else 1) ∧ (∀ j j', j ≤ 7 → j' ≤ 7 → NB W P id j ≠ 0 → NB W P id j = NB W P id j' → j = j') ∧ (∀ j, 1 ≤ j → j ≤ 7 → NB W P id j ≠ 0 → ∃ i, i < 56 ∧ W (P (NB W P id j)) i ≠ 0) ∧ (NB W P id 0 ≠ 0 → (∀ i, 5 ≤ i → i < 56 → W (P (NB W P id 0)) i = 0) ∧ ∃ i, i < 5 ∧ W (P (NB W P id 0)) i ≠ 0)
theorem NOK.rng {W : Nat → Nat → Nat} {P : Nat → Nat} {id : Nat} (h9 : NOK W P id) : ∀ j, j ≤ 7 → NB W P id j ≠ 0 → 250 < NB W P id j ∧ NB W P id j < 2048 ∧ P (NB W P id j) ≠ 0 ∧ W (P (NB W P id j)) 61 = id ∧ W (P (NB W P id j)) 58 = if j = 0 then 2 else 1 := h9.1
theorem NOK.inj {W : Nat → Nat → Nat} {P : Nat → Nat} {id : Nat} (h9 : NOK W P id) : ∀ j j', j ≤ 7 → j' ≤ 7 → NB W P id j ≠ 0 → NB W P id j = NB W P id j' → j = j' := h9.2.1
theorem NOK.ne {W : Nat → Nat → Nat} {P : Nat → Nat} {id : Nat} (h9 : NOK W P id) : ∀ j, 1 ≤ j → j ≤ 7 → NB W P id j ≠ 0 → ∃ i, i < 56 ∧ W (P (NB W P id j)) i ≠ 0 := h9.2.2.1
theorem NOK.ixz {W : Nat → Nat → Nat} {P : Nat → Nat} {id : Nat} (h9 : NOK W P id) : NB W P id 0 ≠ 0 → (∀ i, 5 ≤ i → i < 56 → W (P (NB W P id 0)) i = 0) ∧ ∃ i, i < 5 ∧ W (P (NB W P id 0)) i ≠ 0 := h9.2.2.2
/-- a name: its number, and its length -/
def nmE (W : Nat → Nat → Nat) (b : Nat) : Nat := hn (2 ^ 32) (fun i => W b (2 + i)) 5
def NL (n l : Nat) : Prop := 1 ≤ l ∧ l ≤ 20 ∧ ∃ f : Nat → Nat, n = hn 256 f 20 ∧ ∀ i, i < 20 → f i < 256 ∧ (f i ≠ 0 ↔ i < l)
def DOK (W : Nat → Nat → Nat) (I e : Nat → Nat) : Prop := (∀ s, s < 48 → I (6 + s) ≠ 0 → I (6 + s) % 4096 ≠ 0 ∧ I (6 + s) / 4096 = hashN (fun i => W (I (6 + s) % 4096) (2 + i)) ∧ e (nmE W (I (6 + s) % 4096)) = W (I (6 + s) % 4096) 0 ∧ W (I (6 + s) % 4096) 0 ≠ 0 ∧ W (I (6 + s) % 4096) 0 ≤ 250 ∧ NL (nmE W (I (6 + s) % 4096)) (W (I (6 + s) % 4096) 1)) ∧ (∀ n, e n ≠ 0 → ∃ s, s < 48 ∧ I (6 + s) ≠ 0 ∧ nmE W (I (6 + s) % 4096) = n) ∧ (∀ s s', s < 48 → s' < 48 → I (6 + s) ≠ 0 → I (6 + s') ≠ 0 → nmE W (I (6 + s) % 4096) = nmE W (I (6 + s') % 4096) → s = s') ∧ (I 1 = sm (fun s => if I (6 + s) = 0 then 0 else 1) 48)
theorem DOK.slot {W : Nat → Nat → Nat} {I e : Nat → Nat} (h9 : DOK W I e) : ∀ s, s < 48 → I (6 + s) ≠ 0 → I (6 + s) % 4096 ≠ 0 ∧ I (6 + s) / 4096 = hashN (fun i => W (I (6 + s) % 4096) (2 + i)) ∧ e (nmE W (I (6 + s) % 4096)) = W (I (6 + s) % 4096) 0 ∧ W (I (6 + s) % 4096) 0 ≠ 0 ∧ W (I (6 + s) % 4096) 0 ≤ 250 ∧ NL (nmE W (I (6 + s) % 4096)) (W (I (6 + s) % 4096) 1) := h9.1
theorem DOK.all {W : Nat → Nat → Nat} {I e : Nat → Nat} (h9 : DOK W I e) : ∀ n, e n ≠ 0 → ∃ s, s < 48 ∧ I (6 + s) ≠ 0 ∧ nmE W (I (6 + s) % 4096) = n := h9.2.1
theorem DOK.dis {W : Nat → Nat → Nat} {I e : Nat → Nat} (h9 : DOK W I e) : ∀ s s', s < 48 → s' < 48 → I (6 + s) ≠ 0 → I (6 + s') ≠ 0 → nmE W (I (6 + s) % 4096) = nmE W (I (6 + s') % 4096) → s = s' := h9.2.2.1
theorem DOK.siz {W : Nat → Nat → Nat} {I e : Nat → Nat} (h9 : DOK W I e) : I 1 = sm (fun s => if I (6 + s) = 0 then 0 else 1) 48 := h9.2.2.2
def IDK (W : Nat → Nat → Nat) (P : Nat → Nat) (T : TRE) (id : Nat) : Prop := (P id = 0 ↔ T.kd id = 0) ∧ (T.kd id ≠ 0 → W (P id) 0 = T.kd id ∧ W (P id) 58 = 0 ∧ W (P id) 61 = id) ∧ (T.kd id = 1 → FOK W (W (P id)) (bpF W P id) (T.fil id) ∧ W (P id) 2 = T.lk id ∧ NOK W P id) ∧ (T.kd id = 2 → DOK W (W (P id)) (T.ent id) ∧ W (P id) 2 = T.par id ∧ W (P id) 3 = 0) ∧ (T.kd id ≠ 2 → ∀ n, T.ent id n = 0)
theorem IDK.pl {W : Nat → Nat → Nat} {P : Nat → Nat} {T : TRE} {id : Nat} (h9 : IDK W P T id) : P id = 0 ↔ T.kd id = 0 := h9.1
theorem IDK.kd {W : Nat → Nat → Nat} {P : Nat → Nat} {T : TRE} {id : Nat} (h9 : IDK W P T id) : T.kd id ≠ 0 → W (P id) 0 = T.kd id ∧ W (P id) 58 = 0 ∧ W (P id) 61 = id := h9.2.1
theorem IDK.fil {W : Nat → Nat → Nat} {P : Nat → Nat} {T : TRE} {id : Nat} (h9 : IDK W P T id) : T.kd id = 1 → FOK W (W (P id)) (bpF W P id) (T.fil id) ∧ W (P id) 2 = T.lk id ∧ NOK W P id := h9.2.2.1
theorem IDK.dir {W : Nat → Nat → Nat} {P : Nat → Nat} {T : TRE} {id : Nat} (h9 : IDK W P T id) : T.kd id = 2 → DOK W (W (P id)) (T.ent id) ∧ W (P id) 2 = T.par id ∧ W (P id) 3 = 0 := h9.2.2.2.1
theorem IDK.noe {W : Nat → Nat → Nat} {P : Nat → Nat} {T : TRE} {id : Nat} (h9 : IDK W P T id) : T.kd id ≠ 2 → ∀ n, T.ent id n = 0 := h9.2.2.2.2
def TOK (W : Nat → Nat → Nat) (P : Nat → Nat) (T : TRE) : Prop := (∀ id, T.kd id ≠ 0 → 1 ≤ id ∧ id ≤ 250 ∧ (T.kd id = 1 ∨ T.kd id = 2)) ∧ (∀ id, 1 ≤ id → id ≤ 250 → IDK W P T id)
theorem TOK.rng {W : Nat → Nat → Nat} {P : Nat → Nat} {T : TRE} (h9 : TOK W P T) : ∀ id, T.kd id ≠ 0 → 1 ≤ id ∧ id ≤ 250 ∧ (T.kd id = 1 ∨ T.kd id = 2) := h9.1
theorem TOK.ids {W : Nat → Nat → Nat} {P : Nat → Nat} {T : TRE} (h9 : TOK W P T) : ∀ id, 1 ≤ id → id ≤ 250 → IDK W P T id := h9.2
theorem FOK.keep {W W' : Nat → Nat → Nat} {I bp bp' : Nat → Nat} {f : FV} (h : FOK W I bp f) (hb : ∀ k, k < 412 → bp' k = bp k) (hw : ∀ k, k < 412 → bp k ≠ 0 → W' (bp k) = W (bp k)) : FOK W' I bp' f := by
  refine ⟨h.sz, h.szb, h.sml, h.smb, fun q => ⟨(h.small q).1, fun k hk => ?_⟩, fun k hk => ?_, ?_, fun k hk q => ?_, fun i hi => ?_, h.zer, h.inl, h.pos⟩
  · rw [hb k hk]; exact (h.small q).2 k hk
  · rw [hb k hk]; exact h.has k hk
  · rw [h.there]; exact sm_congr (fun k hk => by rw [hb k hk])
  · rw [hb k hk] at q; exact h.lim k hk q
  · rw [← h.byt i hi]
    unfold byI byB
    by_cases c : I 3 = 1
    · rw [if_pos c, if_pos c]
    · rw [if_neg c, if_neg c, hb (i / 256) (by omega)]
      by_cases d : bp (i / 256) = 0
      · rw [if_pos d, if_pos d]
      · rw [if_neg d, if_neg d, hw _ (by omega) d]
theorem DOK.keep {W W' : Nat → Nat → Nat} {I e : Nat → Nat} (h : DOK W I e) (hw : ∀ s, s < 48 → I (6 + s) ≠ 0 → W' (I (6 + s) % 4096) = W (I (6 + s) % 4096)) : DOK W' I e := by
  have hn : ∀ s, s < 48 → I (6 + s) ≠ 0 → nmE W' (I (6 + s) % 4096) = nmE W (I (6 + s) % 4096) := fun s hs q => by
    unfold nmE
    rw [hw s hs q]
  refine ⟨fun s hs q => ?_, fun n hn' => ?_, fun s s' hs hs' q q' e' => ?_, h.siz⟩
  · rw [hn s hs q, hw s hs q]; exact h.slot s hs q
  · obtain ⟨s, hs, q, e'⟩ := h.all n hn'
    exact ⟨s, hs, q, by rw [hn s hs q]; exact e'⟩
  · rw [hn s hs q, hn s' hs' q'] at e'
    exact h.dis s s' hs hs' q q' e'
theorem NB0 (W : Nat → Nat → Nat) (P : Nat → Nat) (id : Nat) : NB W P id 0 = W (P id) 28 := rfl
theorem NB_congr {W W' : Nat → Nat → Nat} {P P' : Nat → Nat} {id : Nat} (h0 : P' id = P id) (h1 : W' (P id) = W (P id)) (h2 : W (P id) 28 ≠ 0 → P' (W (P id) 28) = P (W (P id) 28) ∧ W' (P (W (P id) 28)) = W (P (W (P id) 28))) (j : Nat) : NB W' P' id j = NB W P id j := by
  unfold NB
  rw [h0, h1]
  by_cases c0 : j = 0
  · rw [if_pos c0, if_pos c0]
  · rw [if_neg c0, if_neg c0]
    by_cases c : j < 3
    · rw [if_pos c, if_pos c]
    · rw [if_neg c, if_neg c]
      by_cases d : W (P id) 28 = 0
      · rw [if_pos d, if_pos d]
      · rw [if_neg d, if_neg d, (h2 d).1, (h2 d).2]
/-- the nodes of a file are where they were, as they were -/
def SAME (W W' : Nat → Nat → Nat) (P P' : Nat → Nat) (id : Nat) : Prop := P' id = P id ∧ W' (P id) = W (P id) ∧ (W (P id) 0 ≠ 2 → ∀ j, j ≤ 7 → NB W P id j ≠ 0 → P' (NB W P id j) = P (NB W P id j) ∧ W' (P (NB W P id j)) = W (P (NB W P id j)))
theorem SAME.nb {W W' : Nat → Nat → Nat} {P P' : Nat → Nat} {id : Nat} (h : SAME W W' P P' id) (hk : W (P id) 0 ≠ 2) (j : Nat) : NB W' P' id j = NB W P id j :=
  NB_congr h.1 h.2.1 (fun q => h.2.2 hk 0 (by omega) q) j
theorem SAME.bp {W W' : Nat → Nat → Nat} {P P' : Nat → Nat} {id : Nat} (h : SAME W W' P P' id) (h2 : W (P id) 0 ≠ 2) {k : Nat} (hk : k < 412) : bpF W' P' id k = bpF W P id k := by
  unfold bpF
  rw [h.nb h2, h.1, h.2.1]
  by_cases c : k < 20
  · rw [if_pos c, if_pos c]
  · rw [if_neg c, if_neg c]
    by_cases d : NB W P id (1 + (k - 20) / 56) = 0
    · rw [if_pos d, if_pos d]
    · rw [if_neg d, if_neg d]
      obtain ⟨e1, e2⟩ := h.2.2 h2 (1 + (k - 20) / 56) (by omega) d
      rw [e1, e2]
theorem SAME.nok {W W' : Nat → Nat → Nat} {P P' : Nat → Nat} {id : Nat} (h : SAME W W' P P' id) (h2 : W (P id) 0 ≠ 2) (hn : NOK W P id) : NOK W' P' id := by
  refine ⟨fun j hj q => ?_, fun j j' hj hj' q e => ?_, fun j h1 hj q => ?_, fun q => ?_⟩
  · rw [h.nb h2] at q ⊢
    obtain ⟨e1, e2⟩ := h.2.2 h2 j hj q
    rw [e1, e2]
    exact hn.rng j hj q
  · rw [h.nb h2] at q e
    rw [h.nb h2] at e
    exact hn.inj j j' hj hj' q e
  · rw [h.nb h2] at q ⊢
    obtain ⟨e1, e2⟩ := h.2.2 h2 j hj q
    rw [e1, e2]
    exact hn.ne j h1 hj q
  · rw [h.nb h2] at q ⊢
    obtain ⟨e1, e2⟩ := h.2.2 h2 0 (by omega) q
    rw [e1, e2]
    exact hn.ixz q
theorem BPL_f {W : Nat → Nat → Nat} {P : Nat → Nat} {id k : Nat} (h0 : P id ≠ 0) (h1 : id ≤ 250) (h2 : W (P id) 0 ≠ 2) (hk : k < 412) : BPL W P id k = bpF W P id k := by
  unfold BPL
  rw [if_neg (by omega), if_neg h2, if_pos hk]
theorem BPL_d {W : Nat → Nat → Nat} {P : Nat → Nat} {id k : Nat} (h0 : P id ≠ 0) (h1 : id ≤ 250) (h2 : W (P id) 0 = 2) (hk : k < 48) : BPL W P id k = W (P id) (6 + k) % 4096 := by
  unfold BPL
  rw [if_neg (by omega), if_pos h2, if_pos hk]
theorem BPL_0 {W : Nat → Nat → Nat} {P : Nat → Nat} {id k : Nat} (h : P id = 0 ∨ 250 < id) : BPL W P id k = 0 := if_pos h
theorem BPL_k {W : Nat → Nat → Nat} {P : Nat → Nat} {id k : Nat} (h : BPL W P id k ≠ 0) : k < 412 ∧ P id ≠ 0 ∧ id ≤ 250 := by
  unfold BPL at h
  by_cases c : P id = 0 ∨ 250 < id
  · rw [if_pos c] at h; exact absurd rfl h
  · rw [if_neg c] at h
    refine ⟨?_, by omega, by omega⟩
    by_cases d : W (P id) 0 = 2
    · rw [if_pos d] at h
      by_cases e : k < 48
      · omega
      · rw [if_neg e] at h; exact absurd rfl h
    · rw [if_neg d] at h
      by_cases e : k < 412
      · exact e
      · rw [if_neg e] at h; exact absurd rfl h
theorem SAME.bpl {W W' : Nat → Nat → Nat} {P P' : Nat → Nat} {id : Nat} (h : SAME W W' P P' id) (k : Nat) : BPL W' P' id k = BPL W P id k := by
  unfold BPL
  rw [h.1, h.2.1]
  by_cases c : P id = 0 ∨ 250 < id
  · rw [if_pos c, if_pos c]
  · rw [if_neg c, if_neg c]
    by_cases d : W (P id) 0 = 2
    · rw [if_pos d, if_pos d]
    · rw [if_neg d, if_neg d]
      by_cases e : k < 412
      · rw [if_pos e, if_pos e, h.bp d e]
      · rw [if_neg e, if_neg e]
/-- two trees say the same of an id -/
def SAMT (T T' : TRE) (id : Nat) : Prop := T'.kd id = T.kd id ∧ T'.lk id = T.lk id ∧ T'.par id = T.par id ∧ T'.ent id = T.ent id ∧ T'.fil id = T.fil id
theorem SAMT.rfl' (T : TRE) (id : Nat) : SAMT T T id := ⟨rfl, rfl, rfl, rfl, rfl⟩
theorem IDK.same {W W' : Nat → Nat → Nat} {P P' : Nat → Nat} {T T' : TRE} {id : Nat} (h : IDK W P T id) (h1 : id ≤ 250) (hT : SAMT T T' id) (hS : P id ≠ 0 → SAME W W' P P' id) (h0 : P id = 0 → P' id = 0) (hW : ∀ k, BPL W P id k ≠ 0 → W' (BPL W P id k) = W (BPL W P id k)) : IDK W' P' T' id := by
  obtain ⟨t1, t2, t3, t4, t5⟩ := hT
  by_cases c : P id = 0
  · have c' := h0 c
    have k0 := h.pl.mp c
    refine ⟨⟨fun _ => by rw [t1]; exact k0, fun _ => c'⟩, fun q => absurd (by rw [t1]; exact k0) q, fun q => ?_, fun q => ?_, fun _ n => ?_⟩
    · rw [t1, k0] at q; omega
    · rw [t1, k0] at q; omega
    · rw [t4]; exact h.noe (by omega) n
  · have hS := hS c
    have hk : T.kd id ≠ 0 := fun q => c (h.pl.mpr q)
    refine ⟨⟨fun q => absurd (hS.1 ▸ q) c, fun q => absurd (t1 ▸ q) hk⟩, fun _ => ?_, fun q => ?_, fun q => ?_, fun q n => ?_⟩
    · rw [hS.1, hS.2.1, t1]; exact h.kd hk
    · rw [t1] at q
      obtain ⟨f1, f2, f3⟩ := h.fil q
      have hw0 : W (P id) 0 ≠ 2 := by rw [(h.kd hk).1, q]; decide
      rw [hS.1, hS.2.1, t2, t5]
      refine ⟨f1.keep (fun k hk => hS.bp hw0 hk) (fun k hk q => ?_), f2, hS.nok hw0 f3⟩
      have := hW k
      rw [BPL_f c h1 hw0 hk] at this
      exact this q
    · rw [t1] at q
      obtain ⟨f1, f2, f3⟩ := h.dir q
      have hw0 : W (P id) 0 = 2 := by rw [(h.kd hk).1, q]
      rw [hS.1, hS.2.1, t3, t4]
      refine ⟨f1.keep (fun s hs q => ?_), f2, f3⟩
      have := hW s
      rw [BPL_d c h1 hw0 hs] at this
      exact this (f1.slot s hs q).1
    · rw [t1] at q
      rw [t4]
      exact h.noe q n
/-- every node has its number -/
def NUM (W : Nat → Nat → Nat) (P : Nat → Nat) : Prop := ∀ n, P n ≠ 0 → 1 ≤ n ∧ n < 2048 ∧ W (P n) 60 = n
/-- every node that is no inode is led to -/
def LED (W : Nat → Nat → Nat) (P : Nat → Nat) (T : TRE) : Prop := ∀ n, 250 < n → P n ≠ 0 → ∃ id j, T.kd id = 1 ∧ j ≤ 7 ∧ NB W P id j = n
theorem TOK.same {W W' : Nat → Nat → Nat} {P : Nat → Nat} {T : TRE} (h : TOK W P T) (hP : ∀ n, P n ≠ 0 → W' (P n) = W (P n)) {id : Nat} (h1 : 1 ≤ id) (h2 : id ≤ 250) (h0 : P id ≠ 0) : SAME W W' P P id := by
  have hi := h.ids id h1 h2
  have hk : T.kd id ≠ 0 := fun q => h0 (hi.pl.mpr q)
  refine ⟨rfl, hP id h0, fun w j hj q => ⟨rfl, ?_⟩⟩
  rw [(hi.kd hk).1] at w
  have h3 := (h.rng id hk).2.2
  exact hP _ ((hi.fil (by omega)).2.2.rng j hj q).2.2.1
theorem TOK.keep {W W' : Nat → Nat → Nat} {P : Nat → Nat} {T : TRE} (h : TOK W P T) (hz : P 0 = 0) (hP : ∀ n, P n ≠ 0 → W' (P n) = W (P n)) (hB : ∀ id k, BPL W P id k ≠ 0 → W' (BPL W P id k) = W (BPL W P id k)) : TOK W' P T ∧ ∀ id k, BPL W' P id k = BPL W P id k := by
  refine ⟨⟨h.rng, fun id h1 h2 => (h.ids id h1 h2).same h2 (SAMT.rfl' T id) (fun q => h.same hP h1 h2 q) (fun q => q) (hB id)⟩, fun id k => ?_⟩
  by_cases c : P id = 0 ∨ 250 < id
  · rw [BPL_0 c, BPL_0 c]
  · have c1 : id ≠ 0 := fun q => c (Or.inl (by rw [q]; exact hz))
    exact (h.same hP (by omega) (by omega) (fun q => c (Or.inl q))).bpl k
