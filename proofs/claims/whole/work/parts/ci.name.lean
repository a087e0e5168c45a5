/-! the model: name -/
def fK (w : NSt) (k i : Nat) : Nat := if i < w.2 13 k then w.2 14 (20 * k + i) % 256 else 0
theorem fK_lt (w : NSt) (k i : Nat) : fK w k i < 256 := by
  unfold fK
  split
  · exact Nat.mod_lt _ (by decide)
  · decide
theorem nmK_fK (w : NSt) (k : Nat) : nmK w 13 14 k = hn 256 (fK w k) 20 := rfl
theorem fK_nz {w : NSt} {A : AB} (h : MI w A) {k : Nat} (hk : k < w.1 12) {i : Nat} (hi : i < 20) : fK w k i ≠ 0 ↔ i < w.2 13 k := by
  obtain ⟨-, -, f, e, hf⟩ := h.en.nl k hk
  rw [nmK_fK] at e
  rw [hn_inj (fun i _ => fK_lt w k i) (fun i hi => (hf i hi).1) e i hi]
  exact (hf i hi).2
theorem fK_eq {w : NSt} {A : AB} (h : MI w A) {k i : Nat} (hk : k < w.1 12) (hi : i < w.2 13 k) : w.2 14 (20 * k + i) = sxN (fK w k i) := by
  unfold fK
  rw [if_pos hi]
  exact h.en.by' k hk i hi
theorem before_b (FU : Nat) {w : NSt} {A : AB} (h : MI w A) {a b : Nat} (ha : a < w.1 12) (hb : b < w.1 12) : ∀ (m i q : Nat), i + m = 20 → m < q → (∀ t, t < i → fK w a t = fK w b t ∧ t < w.2 13 a ∧ t < w.2 13 b) → Mod_isBefore_b2 FU q (nI a) (nI b) (nI i) (up w) = some (nI (if nmK w 13 14 a < nmK w 13 14 b then 1 else 0)) := by
  have hE := h.en.le
  have la := h.en.l20 ha
  have lb := h.en.l20 hb
  have r13 : ∀ k, k < w.1 12 → rdA 2400 (up w) 13 (nI k) = some (nI (w.2 13 k)) := fun k hk => rdA_z w 13 (by omega) (by decide)
  have r14 : ∀ k i, k < w.1 12 → i < 20 → rdA 48000 (up w) 14 ((20 : Int32) * nI k + nI i) = some (nI (w.2 14 (20 * k + i))) := fun k i hk hi => by
    rw [show (20 : Int32) * nI k = nI (20 * k) from pk_mul 20 k, nI_add]
    exact rdA_z w 14 (by omega) (by decide)
  have lt : ∀ i, i < 20 → (∀ t, t < i → fK w a t = fK w b t) → fK w a i < fK w b i → nmK w 13 14 a < nmK w 13 14 b := fun i hi q r => by
    rw [nmK_fK, nmK_fK]
    exact hn_lt q r (fun j _ => fK_lt w a j) hi
  have gt : ∀ i, i < 20 → (∀ t, t < i → fK w a t = fK w b t) → fK w b i < fK w a i → ¬ nmK w 13 14 a < nmK w 13 14 b := fun i hi q r => by
    have := hn_lt (B := 256) (f := fK w b) (g := fK w a) (fun t ht => (q t ht).symm) r (n := 20) (fun j _ => fK_lt w b j) hi
    rw [← nmK_fK, ← nmK_fK] at this
    exact Nat.lt_asymm this
  have e73 : Mod_isBefore_b73 FU (nI a) (nI b) (up w) = some (nI (if w.2 13 a < w.2 13 b then 1 else 0)) := by
    unfold Mod_isBefore_b73
    rw [r13 a ha, Option.bind_some, r13 b hb, Option.bind_some]
    by_cases c : w.2 13 a < w.2 13 b
    · rw [if_neg (nI_ge c (by omega)), if_pos c]; rfl
    · rw [if_pos (nI_le (by omega) (by omega)), if_neg c]; rfl
  have endA : ∀ i, i = w.2 13 a → (∀ t, t < i → fK w a t = fK w b t ∧ t < w.2 13 a ∧ t < w.2 13 b) → (if w.2 13 a < w.2 13 b then 1 else 0) = if nmK w 13 14 a < nmK w 13 14 b then 1 else 0 := fun i hi q => by
    by_cases c : w.2 13 a < w.2 13 b
    · have i20 : i < 20 := by omega
      have z : fK w a i = 0 := Classical.byContradiction (fun r => by
        have := (fK_nz h ha i20).mp r
        omega)
      have p := (fK_nz h hb i20).mpr (by omega)
      rw [if_pos c, if_pos (lt i i20 (fun t ht => (q t ht).1) (by omega))]
    · have e : w.2 13 b = w.2 13 a := by
        by_cases g : 0 < i
        · have := (q (i - 1) (by omega)).2.2
          omega
        · omega
      rw [if_neg c, if_neg (fun r => ?_)]
      have : nmK w 13 14 a = nmK w 13 14 b := by
        rw [nmK_fK, nmK_fK]
        refine hn_congr (fun t ht => ?_)
        by_cases g : t < i
        · exact (q t g).1
        · unfold fK
          rw [if_neg (by omega), if_neg (by omega)]
      omega
  intro m
  induction m with
  | zero =>
    intro i q h1 h2 hq
    obtain ⟨q, rfl⟩ : ∃ q9, q = q9 + 1 := ⟨q - 1, by omega⟩
    have h1 : i = 20 := h1
    have ea : i = w.2 13 a := by
      have := (hq 19 (by omega)).2.1
      omega
    unfold Mod_isBefore_b2 Mod_isBefore_b53
    rw [r13 a ha, Option.bind_some, if_pos (nI_le (by omega) (by omega)), Option.bind_some, if_pos (by rw [ea]), e73, endA i ea hq]
  | succ m ih =>
    intro i q h1 h2 hq
    obtain ⟨q, rfl⟩ : ∃ q9, q = q9 + 1 := ⟨q - 1, by omega⟩
    have i20 : i < 20 := by omega
    unfold Mod_isBefore_b2 Mod_isBefore_b53
    rw [r13 a ha, Option.bind_some]
    by_cases c1 : w.2 13 a ≤ i
    · have ea : i = w.2 13 a := by
        by_cases g : 0 < i
        · have := (hq (i - 1) (by omega)).2.1
          omega
        · omega
      rw [if_pos (nI_le c1 (by omega)), Option.bind_some, if_pos (by rw [ea]), e73, endA i ea hq]
    · rw [if_neg (nI_ge (by omega) (by omega)), r13 b hb, Option.bind_some]
      have nea : ¬ nI i = nI (w.2 13 a) := fun e => by
        have := (nI_inj (by omega) (by omega)).mp e
        omega
      by_cases c2 : w.2 13 b ≤ i
      · have eb : i = w.2 13 b := by
          by_cases g : 0 < i
          · have := (hq (i - 1) (by omega)).2.2
            omega
          · omega
        have z : fK w b i = 0 := Classical.byContradiction (fun r => by
          have := (fK_nz h hb i20).mp r
          omega)
        have p := (fK_nz h ha i20).mpr (by omega)
        rw [if_pos (nI_le c2 (by omega)), Option.bind_some, if_neg nea, Option.bind_some, if_pos (by rw [eb]), e73, if_neg (show ¬ w.2 13 a < w.2 13 b by omega), if_neg (gt i i20 (fun t ht => (hq t ht).1) (by omega))]
      · have neb : ¬ nI i = nI (w.2 13 b) := fun e => by
          have := (nI_inj (by omega) (by omega)).mp e
          omega
        have fa := fK_eq h ha (show i < w.2 13 a by omega)
        have fb := fK_eq h hb (show i < w.2 13 b by omega)
        have la' := fK_lt w a i
        have lb' := fK_lt w b i
        rw [if_neg (nI_ge (by omega) (by omega)), r14 a i ha i20, Option.bind_some, r14 b i hb i20, Option.bind_some, fa, fb]
        by_cases c3 : fK w a i = fK w b i
        · rw [if_pos (by rw [c3]), nI_1]
          refine ih (i + 1) q (by omega) (by omega) (fun t ht => ?_)
          by_cases g : t = i
          · rw [g]; exact ⟨c3, by omega, by omega⟩
          · exact hq t (by omega)
        · rw [if_neg (fun e => c3 (sxN_inj la' lb' ((nI_inj (sxN_lt la') (sxN_lt lb')).mp e))), Option.bind_some, if_neg nea, Option.bind_some, if_neg neb, Option.bind_some, Option.bind_some, sx255 _ la', sx255 _ lb']
          by_cases c4 : fK w a i < fK w b i
          · rw [if_neg (nI_ge c4 (by omega)), if_pos (lt i i20 (fun t ht => (hq t ht).1) c4)]; rfl
          · rw [if_pos (nI_le (by omega) (by omega)), if_neg (gt i i20 (fun t ht => (hq t ht).1) (by omega))]; rfl
theorem before_z {FU : Nat} (hF : 140000 < FU) {w : NSt} {A : AB} (h : MI w A) {a b : Nat} (ha : a < w.1 12) (hb : b < w.1 12) : Mod_isBefore FU (nI a) (nI b) (up w) = some (nI (if nmK w 13 14 a < nmK w 13 14 b then 1 else 0)) := before_b FU h ha hb 20 0 FU (by omega) (by omega) (fun t ht => by omega)
/-- ranks -/
theorem EN.rank {w : NSt} {bd bi bl bn E : Nat} {ent : Nat → Nat → Nat} (h : EN w bd bi bl bn E ent) (d X : Nat) (hX : X < NNM) : sm (fun k => if w.2 bd k = d ∧ nmK w bl bn k < X then 1 else 0) E = rnk (ent d) X := by
  unfold rnk
  rw [sm_congr (f := fun n => if ent d n = 0 then 0 else 1) (g := fun n => if ent d n ≠ 0 then 1 else 0) (fun n _ => if01)]
  refine cnt_inj (f := nmK w bl bn) (p := fun k => w.2 bd k = d ∧ nmK w bl bn k < X) (q := fun n => ent d n ≠ 0) (fun k hk q => ?_) (fun n hn q => ?_) (fun k k' hk hk' q q' e => h.dis k k' hk hk' (q.1.trans q'.1.symm) e)
  · obtain ⟨e1, e2, -⟩ := h.en k hk
    rw [q.1] at e1
    exact ⟨q.2, by rw [e1]; exact e2⟩
  · obtain ⟨k, k1, k2, k3⟩ := h.all d n q
    exact ⟨k, k1, ⟨k2, by rw [k3]; exact hn⟩, k3⟩
theorem name58 {FU : Nat} (hF : 140000 < FU) {y : NSt} {A : AB} (h : MI y A) (K : Int32 → Int32 → Int32 → St → Option (Int32 × St)) {d e : Nat} (hd : d < 2 ^ 32) (he : e < y.1 12) (k : Int32) : ∀ (m j q c : Nat), j + m = y.1 12 → m < q → Mod_name_b58 FU K q (nI d) k (nI e) (nI c) (nI j) (up y) = (if y.2 11 e = d then (if nI (c + sm (fun t => if y.2 11 (j + t) = d ∧ nmK y 13 14 (j + t) < nmK y 13 14 e then 1 else 0) m) = k then nx (setI (up y) 10 (nI (y.2 13 e))) fun g5 => Mod_name_b143 FU K FU (nI d) k (nI e) (0 : Int32) g5 else Mod_name_b177 FU K (nI d) k (nI e) (up y)) else Mod_name_b177 FU K (nI d) k (nI e) (up y)) := by
  have hE := h.en.le
  have hwe := h.po.wd 11 e
  intro m
  induction m with
  | zero =>
    intro j q c h1 h2
    obtain ⟨q, rfl⟩ : ∃ q9, q = q9 + 1 := ⟨q - 1, by omega⟩
    unfold Mod_name_b58
    rw [up1, if_pos (nI_le (by omega) (by omega)), rdA_z y 11 (by omega) (by decide), Option.bind_some]
    show _ = (if y.2 11 e = d then (if nI (c + 0) = k then _ else _) else _)
    rw [Nat.add_zero]
    by_cases g : y.2 11 e = d
    · rw [if_pos (by rw [g]), if_pos g, rdA_z y 13 (by omega) (by decide), Option.bind_some]
    · rw [if_neg (fun v => g ((nI_inj hwe hd).mp v)), if_neg g]
  | succ m ih =>
    intro j q c h1 h2
    obtain ⟨q, rfl⟩ : ∃ q9, q = q9 + 1 := ⟨q - 1, by omega⟩
    have es : sm (fun t => if y.2 11 (j + t) = d ∧ nmK y 13 14 (j + t) < nmK y 13 14 e then 1 else 0) (m + 1) = (if y.2 11 j = d ∧ nmK y 13 14 j < nmK y 13 14 e then 1 else 0) + sm (fun t => if y.2 11 (j + 1 + t) = d ∧ nmK y 13 14 (j + 1 + t) < nmK y 13 14 e then 1 else 0) m := by
      rw [Nat.add_comm m 1, sm_cut]
      congr 1
      · exact Nat.zero_add _
      · exact sm_congr (fun t _ => by rw [show j + (1 + t) = j + 1 + t by omega])
    have hwj := h.po.wd 11 j
    by_cases g : y.2 11 e = d
    · have ih := fun c => ih (j + 1) q c (by omega) (by omega)
      unfold Mod_name_b58 Mod_name_b104 Mod_name_b105
      rw [up1, if_neg (nI_ge (by omega) (by omega)), rdA_z y 11 (by omega) (by decide), Option.bind_some]
      have z0 : ∀ c, nI c + (0 : Int32) = nI c := fun c => Int32.add_zero _
      by_cases gj : y.2 11 j = d
      · rw [if_pos (show nI (y.2 11 j) = nI d by rw [gj]), rdA_z y 11 (by omega) (by decide), Option.bind_some, if_pos (show nI (y.2 11 e) = nI d by rw [g]), before_z hF h (by omega) he, Option.bind_some, es]
        by_cases l : nmK y 13 14 j < nmK y 13 14 e
        · rw [if_pos l, if_neg n1, nI_1, nI_1, ih (c + 1), if_pos (show y.2 11 j = d ∧ nmK y 13 14 j < nmK y 13 14 e from ⟨gj, l⟩), Nat.add_assoc]
        · rw [if_neg l, if_pos i00, z0, nI_1, ih c, if_neg (show ¬ (y.2 11 j = d ∧ nmK y 13 14 j < nmK y 13 14 e) from fun v => l v.2), Nat.zero_add]
      · rw [if_neg (fun v => gj ((nI_inj hwj hd).mp v)), z0, nI_1, ih c, es, if_neg (show ¬ (y.2 11 j = d ∧ nmK y 13 14 j < nmK y 13 14 e) from fun v => gj v.1), Nat.zero_add]
    · have ih := fun c => ih (j + 1) q c (by omega) (by omega)
      have ih : ∀ c, Mod_name_b58 FU K q (nI d) k (nI e) (nI c) (nI (j + 1)) (up y) = Mod_name_b177 FU K (nI d) k (nI e) (up y) := fun c => by rw [ih c, if_neg g]
      unfold Mod_name_b58 Mod_name_b104 Mod_name_b105
      rw [up1, if_neg (nI_ge (by omega) (by omega)), rdA_z y 11 (by omega) (by decide), Option.bind_some, if_neg g]
      have z0 : ∀ c, nI c + (0 : Int32) = nI c := fun c => Int32.add_zero _
      by_cases gj : y.2 11 j = d
      · rw [if_pos (show nI (y.2 11 j) = nI d by rw [gj]), rdA_z y 11 (by omega) (by decide), Option.bind_some, if_neg (fun v => g ((nI_inj hwe hd).mp v)), z0, nI_1, ih c]
      · rw [if_neg (fun v => gj ((nI_inj hwj hd).mp v)), z0, nI_1, ih c]
theorem name143 (FU : Nat) {x : NSt} {L e : Nat} (K : Int32 → Int32 → Int32 → St → Option (Int32 × St)) (d k : Int32) (hL : L ≤ 20) (he : e < 2400) (x10 : x.1 10 = L) (Q : Int32 × St → Prop) (hK : ∀ z, z.1 = x.1 → (∀ a, a ≠ 1 → z.2 a = x.2 a) → (∀ i, i < L → z.2 1 i = sxN (x.2 14 (20 * e + i) % 256)) → (∀ i, z.2 1 i < 2 ^ 32) → Ev (Mod_name_b177 FU K d k (nI e) (up z)) Q) : ∀ (m j q : Nat) (y : NSt), j + m = L → m < q → y.1 = x.1 → (∀ a, a ≠ 1 → y.2 a = x.2 a) → (∀ i, i < j → y.2 1 i = sxN (x.2 14 (20 * e + i) % 256)) → (∀ i, y.2 1 i < 2 ^ 32) → Ev (Mod_name_b143 FU K q d k (nI e) (nI j) (up y)) Q := by
  intro m
  induction m with
  | zero =>
    intro j q y h1 h2 y1 ya yt yw
    obtain ⟨q, rfl⟩ : ∃ q9, q = q9 + 1 := ⟨q - 1, by omega⟩
    unfold Mod_name_b143
    rw [up1, y1, x10, if_pos (nI_le (by omega) (by omega))]
    exact hK y y1 ya (fun i hi => yt i (by omega)) yw
  | succ m ih =>
    intro j q y h1 h2 y1 ya yt yw
    obtain ⟨q, rfl⟩ : ∃ q9, q = q9 + 1 := ⟨q - 1, by omega⟩
    unfold Mod_name_b143
    rw [up1, y1, x10, if_neg (nI_ge (by omega) (by omega)), show (20 : Int32) * nI e = nI (20 * e) from pk_mul 20 e, nI_add, rdA_z y 14 (by omega) (by decide), Option.bind_some, nby_n, ya 14 (by decide), wrA_z y 1 (by omega) (by decide), Option.bind_some, nI_1]
    refine ih (j + 1) q _ (by omega) (by omega) y1 (fun a ha => by rw [zA2, if_neg ha]; exact ya a ha) (fun i hi => ?_) (fun i => ?_)
    · rw [zA2, if_pos rfl]
      by_cases c : i = j
      · rw [c, va_up_self]
      · rw [va_up_ne _ _ c]; exact yt i (by omega)
    · rw [zA2, if_pos rfl]
      unfold va_up
      split
      · exact sxN_lt (Nat.mod_lt _ (by decide))
      · exact yw i
def NMI (y x : NSt) (ent : Nat → Nat) (d k e : Nat) : Prop := (∀ j, j ≠ 10 → y.1 j = x.1 j) ∧ (∀ a, a ≠ 1 → y.2 a = x.2 a) ∧ (∀ i, y.2 1 i < 2 ^ 32) ∧ ((∃ e', e' < e ∧ x.2 11 e' = d ∧ rnk ent (nmK x 13 14 e') = k ∧ y.1 10 = x.2 13 e' ∧ ∀ i, i < x.2 13 e' → y.2 1 i = sxN (x.2 14 (20 * e' + i) % 256)) ∨ ((∀ e', e' < e → ¬ (x.2 11 e' = d ∧ rnk ent (nmK x 13 14 e') = k)) ∧ y.1 10 = 0))
theorem NMI.so {y x : NSt} {ent : Nat → Nat} {d k e : Nat} (h9 : NMI y x ent d k e) : ∀ j, j ≠ 10 → y.1 j = x.1 j := h9.1
theorem NMI.ar {y x : NSt} {ent : Nat → Nat} {d k e : Nat} (h9 : NMI y x ent d k e) : ∀ a, a ≠ 1 → y.2 a = x.2 a := h9.2.1
theorem NMI.wd {y x : NSt} {ent : Nat → Nat} {d k e : Nat} (h9 : NMI y x ent d k e) : ∀ i, y.2 1 i < 2 ^ 32 := h9.2.2.1
theorem NMI.ht {y x : NSt} {ent : Nat → Nat} {d k e : Nat} (h9 : NMI y x ent d k e) : (∃ e', e' < e ∧ x.2 11 e' = d ∧ rnk ent (nmK x 13 14 e') = k ∧ y.1 10 = x.2 13 e' ∧ ∀ i, i < x.2 13 e' → y.2 1 i = sxN (x.2 14 (20 * e' + i) % 256)) ∨ ((∀ e', e' < e → ¬ (x.2 11 e' = d ∧ rnk ent (nmK x 13 14 e') = k)) ∧ y.1 10 = 0) := h9.2.2.2
theorem NMI.mi {y x : NSt} {A : AB} {ent : Nat → Nat} {d k e : Nat} (h : NMI y x ent d k e) (hx : MI x A) (he : e ≤ x.1 12) : MI y ((A.w_tb (fun i => y.2 1 i % 256)).w_ol (y.1 10)) := by
  have hb : y.1 10 ≤ 20 ∧ ∀ i, i < y.1 10 → y.2 1 i = sxN (y.2 1 i % 256) := by
    rcases h.ht with ⟨e', e1, -, -, e4, e5⟩ | ⟨-, e0⟩
    · have := hx.en.l20 (show e' < x.1 12 by omega)
      refine ⟨by omega, fun i hi => ?_⟩
      rw [e4] at hi
      rw [e5 i hi, sxN_md (Nat.mod_lt _ (by decide))]
    · exact ⟨by omega, fun i hi => by omega⟩
  exact hx.told (by omega) h.so rfl h.ar (fun i hi => ⟨hb.2 i hi, Nat.mod_lt _ (by decide)⟩) h.wd
theorem name44 {FU : Nat} (hF : 140000 < FU) {x : NSt} {A : AB} (hx : MI x A) {d k : Nat} (hd : d < 2 ^ 32) (hk : k < 2 ^ 31) : ∀ (m e q : Nat) (y : NSt), e + m = x.1 12 → m < q → NMI y x (A.T.ent d) d k e → Ev (Mod_name_b44 FU q (nI d) (nI k) (nI e) (up y)) fun r => ∃ z, r = ((if (nI (z.1 10)) ≤ 0 then (-1 : Int32) else nI (z.1 10)), up z) ∧ NMI z x (A.T.ent d) d k (x.1 12) := by
  have hE := hx.en.le
  intro m
  induction m with
  | zero =>
    intro e q y h1 h2 hy
    obtain ⟨q, rfl⟩ : ∃ q9, q = q9 + 1 := ⟨q - 1, by omega⟩
    have h1 : e = x.1 12 := h1
    subst h1
    unfold Mod_name_b44
    rw [up1, hy.so 12 (by decide), if_pos (nI_le (Nat.le_refl _) (by omega)), up1]
    by_cases c : nI (y.1 10) ≤ (0 : Int32)
    · rw [if_pos c]
      exact Ev.ret ⟨y, by rw [if_pos c], hy⟩
    · rw [if_neg c]
      exact Ev.ret ⟨y, by rw [if_neg c], hy⟩
  | succ m ih =>
    intro e q y h1 h2 hy
    obtain ⟨q, rfl⟩ : ∃ q9, q = q9 + 1 := ⟨q - 1, by omega⟩
    have he : e < x.1 12 := by omega
    have hm := hy.mi hx (by omega)
    have s12 := hy.so 12 (by decide)
    have nK : ∀ j, nmK y 13 14 j = nmK x 13 14 j := fun j => by
      unfold nmK
      rw [hy.ar 13 (by decide), hy.ar 14 (by decide)]
    have rk : sm (fun t => if y.2 11 (0 + t) = d ∧ nmK y 13 14 (0 + t) < nmK y 13 14 e then 1 else 0) (y.1 12) = rnk (A.T.ent d) (nmK x 13 14 e) := by
      rw [s12, ← hx.en.rank d (nmK x 13 14 e) (NL_lt (hx.en.nl e he))]
      exact sm_congr (fun t _ => by rw [Nat.zero_add, hy.ar 11 (by decide), nK, nK])
    have rb : rnk (A.T.ent d) (nmK x 13 14 e) ≤ 2400 := by
      rw [← rk, s12]
      refine Nat.le_trans (sm_bnd (c := 1) (fun t _ => ?_)) (by omega)
      split <;> decide
    unfold Mod_name_b44
    rw [up1, s12, if_neg (nI_ge (by omega) (by omega)), show (0 : Int32) = nI 0 from rfl, name58 hF hm _ hd (by rw [s12]; exact he) (nI k) (y.1 12) 0 FU 0 (by omega) (by rw [s12]; omega), rk, Nat.zero_add, hy.ar 11 (by decide)]
    obtain ⟨r, er⟩ : ∃ r, r = rnk (A.T.ent d) (nmK x 13 14 e) := ⟨_, rfl⟩
    rw [← er] at rb ⊢
    have skip : ¬ (x.2 11 e = d ∧ r = k) → Ev (Mod_name_b177 FU (Mod_name_b44 FU q) (nI d) (nI k) (nI e) (up y)) fun r => ∃ z, r = ((if (nI (z.1 10)) ≤ 0 then (-1 : Int32) else nI (z.1 10)), up z) ∧ NMI z x (A.T.ent d) d k (x.1 12) := fun no => by
      unfold Mod_name_b177
      rw [nI_1]
      refine ih (e + 1) q y (by omega) (by omega) ⟨hy.so, hy.ar, hy.wd, ?_⟩
      rcases hy.ht with ⟨e', e1, e2⟩ | ⟨e1, e2⟩
      · exact Or.inl ⟨e', by omega, e2⟩
      · refine Or.inr ⟨fun e' h' => ?_, e2⟩
        by_cases g : e' = e
        · rw [g, ← er]; exact no
        · exact e1 e' (by omega)
    by_cases c1 : x.2 11 e = d
    · rw [if_pos c1]
      by_cases c2 : r = k
      · rw [if_pos (by rw [c2]), nx_eq, up_I]
        have l20 := hx.en.l20 he
        have e13 := hy.ar 13 (by decide)
        rw [e13]
        refine name143 FU (x := zI y 10 (x.2 13 e)) (L := x.2 13 e) (e := e) (Mod_name_b44 FU q) (nI d) (nI k) l20 (by omega) (by rw [zI1, if_pos rfl]) _ (fun z z1 za zt zw => ?_) (x.2 13 e) 0 FU (zI y 10 (x.2 13 e)) (by omega) (by omega) rfl (fun _ _ => rfl) (fun i hi => by omega) hy.wd
        unfold Mod_name_b177
        rw [nI_1]
        refine ih (e + 1) q z (by omega) (by omega) ⟨fun j hj => ?_, fun a ha => ?_, zw, Or.inl ⟨e, by omega, c1, by rw [← er]; exact c2, by rw [z1, zI1, if_pos rfl], fun i hi => ?_⟩⟩
        · rw [z1, zI1, if_neg hj]; exact hy.so j hj
        · rw [za a ha]; exact hy.ar a ha
        · rw [zt i hi]
          show sxN (y.2 14 (20 * e + i) % 256) = _
          rw [hy.ar 14 (by decide)]
      · rw [if_neg (fun v => c2 ((nI_inj (by omega) (by omega)).mp v))]
        exact skip (fun v => c2 v.2)
    · rw [if_neg c1]
      exact skip (fun v => c1 v.1)
theorem mo_name {FU : Nat} (hF : 140000 < FU) {w : NSt} {A : AB} (h : MH w A) {d k : Nat} (hd' : d < 2 ^ 32) (hk : k < 2 ^ 32) : AnsM (Mod_name FU (nI d) (nI k) (up w)) (nameA d k A).1 (nameA d k A) := by
  unfold Mod_name nameA
  refine off_m FU h.mi (fun x => if_neg n1) (fun hd hx x0 => ?_)
  obtain ⟨x, ex⟩ : ∃ x, x = thw w 0 := ⟨_, rfl⟩
  rw [← ex] at hx x0 ⊢
  have hA := h.tt hd
  have hT := hA.t
  have bad : ¬ (A.T.kd d = 2 ∧ k < 2 ^ 31) → ∀ r : ANS, AnsM (Mod_name_b23 FU (nI d) (nI k) (up x)) (if ¬ (A.T.kd d = 2 ∧ k < 2 ^ 31) then (1, 0, A) else r).1 (if ¬ (A.T.kd d = 2 ∧ k < 2 ^ 31) then (1, 0, A) else r) := fun q r => by
    rw [if_pos q]
    unfold Mod_name_b23 Mod_name_b28
    exact thr_m FU hx (a := 1) (b := 0) (by decide) (by decide) (fun x => if_neg n1) (fun _ => rfl) (fun q => by cases q) (fun q => by cases q)
  rw [if_pos i00, show (2 : Int32) = nI 2 from rfl, is_z FU hx hT hd' (by decide), Option.bind_some]
  by_cases c1 : A.T.kd d = 2
  · rw [if_pos c1, if_neg n1]
    by_cases c2 : k < 2 ^ 31
    · rw [if_pos (show (0 : Int32) ≤ nI k from nI_le (Nat.zero_le _) c2), if_neg (show ¬ ¬ (A.T.kd d = 2 ∧ k < 2 ^ 31) from fun q => q ⟨c1, c2⟩)]
      unfold Mod_name_b28
      obtain ⟨r, er⟩ : ∃ r, r = (if k < nmc (A.T.ent d) then ((0, nmL (nth (A.T.ent d) k NNM), (A.w_tb (nmB (nth (A.T.ent d) k NNM))).w_ol (nmL (nth (A.T.ent d) k NNM))) : ANS) else (0, neg1, A.w_ol 0)) := ⟨_, rfl⟩
      rw [← er]
      have r1 : r.1 = 0 := by
        rw [er]
        split <;> rfl
      refine thr_m FU hx (a := 0) (b := 0) (by decide) (by decide) (fun x => if_neg n1) (fun q => by cases q) (fun _ q => by cases q) (fun _ _ hy y0 => ?_)
      obtain ⟨y, ey⟩ : ∃ y, y = thw x 0 := ⟨_, rfl⟩
      rw [← ey] at hy y0 ⊢
      rw [if_pos i00, nx_eq, show (0 : Int32) = nI 0 from rfl, up_I]
      have hE := hy.en.le
      refine (name44 hF hy (d := d) (k := k) hd' c2 (y.1 12) 0 FU (zI y 10 0) (by omega) (by omega) ⟨fun j hj => by rw [zI1, if_neg hj], fun _ _ => rfl, fun i => hy.po.wd 1 i, Or.inr ⟨fun e' h' => by omega, by rw [zI1, if_pos rfl]⟩⟩).mono ?_
      rintro _ ⟨z, rfl, hz⟩
      refine ⟨z, rfl, by rw [hz.so 0 (by decide), y0, r1], ?_⟩
      rcases hz.ht with ⟨e, e1, e2, e3, e4, e5⟩ | ⟨e1, e2⟩
      · obtain ⟨g1, g2, -⟩ := hy.en.en e e1
        have hnl := hy.en.nl e e1
        have hN := NL_lt hnl
        obtain ⟨N, eN⟩ : ∃ N, N = nmK y 13 14 e := ⟨_, rfl⟩
        rw [← eN] at g1 hnl hN e3
        rw [e2] at g1
        have ne : A.T.ent d N ≠ 0 := by rw [g1]; exact g2
        have hlt : k < nmc (A.T.ent d) := by
          rw [← e3]
          exact rnk_lt ne hN
        have hnth : nth (A.T.ent d) k NNM = N := nth_eq ne e3 NNM hN
        have hlen : nmL N = y.2 13 e := hnl.len
        have l1 := hnl.1
        have l20 := hnl.2.1
        rw [er, if_pos hlt, hnth, hlen]
        refine ⟨fun _ => ?_, ?_⟩
        · show (if nI (z.1 10) ≤ 0 then (-1 : Int32) else nI (z.1 10)) = nI (y.2 13 e)
          rw [e4, if_neg (show ¬ nI (y.2 13 e) ≤ (0 : Int32) from nI_ge (a := 0) (by omega) (by omega))]
        · refine hy.told (tb := nmB N) (by omega) hz.so e4 hz.ar (fun i hi => ?_) hz.wd
          have dg : nmB N i = fK y e i := by
            rw [eN, nmK_fK]
            unfold nmB
            exact hn_dig (fun j => fK_lt y e j) (by omega)
          rw [dg, e5 i hi]
          refine ⟨?_, fK_lt y e i⟩
          unfold fK
          rw [if_pos hi]
      · have hge : ¬ k < nmc (A.T.ent d) := fun q => by
          obtain ⟨n, n1, n2, n3⟩ := nth_ex (e := A.T.ent d) (k := k) NNM q
          obtain ⟨e, q1, q2, q3⟩ := hy.en.all d n n2
          exact e1 e q1 ⟨q2, by rw [q3]; exact n3⟩
        rw [er, if_neg hge]
        refine ⟨fun _ => ?_, ?_⟩
        · show (if nI (z.1 10) ≤ 0 then (-1 : Int32) else nI (z.1 10)) = nI neg1
          rw [e2]
          exact neg_I.symm
        · have := hy.told (y := z) (tb := A.tb) (L := 0) (by decide) hz.so e2 hz.ar (fun i hi => by omega) hz.wd
          exact this
    · have q : ¬ (0 : Int32) ≤ nI k := fun v => by
        have : nI k < nI 0 := (sLt hk (by decide)).mpr (Or.inr (by omega))
        exact Int32.lt_irrefl (Int32.lt_of_le_of_lt v this)
      rw [if_neg q]
      exact bad (fun q => c2 q.2) _
  · rw [if_neg c1, if_pos i00]
    exact bad (fun q => c1 q.1) _
