/-! the class: name -/
/-- while names are told: the directory's inode is loaded -/
def TN (y z : NSt) (d : Nat) : Prop := (∀ a, a ≠ 1 → a ≠ 17 → a ≠ 18 → y.2 a = z.2 a) ∧ (∀ k, k ≠ 1 → y.1 k = z.1 k) ∧ (∀ i, i < 64 → y.2 17 i = zV z (z.2 6 d) i) ∧ (WD y)
theorem TN.ar {y z : NSt} {d : Nat} (h9 : TN y z d) : ∀ a, a ≠ 1 → a ≠ 17 → a ≠ 18 → y.2 a = z.2 a := h9.1
theorem TN.sc {y z : NSt} {d : Nat} (h9 : TN y z d) : ∀ k, k ≠ 1 → y.1 k = z.1 k := h9.2.1
theorem TN.i17 {y z : NSt} {d : Nat} (h9 : TN y z d) : ∀ i, i < 64 → y.2 17 i = zV z (z.2 6 d) i := h9.2.2.1
theorem TN.wd {y z : NSt} {d : Nat} (h9 : TN y z d) : WD y := h9.2.2.2
theorem TN.V {y z : NSt} {d : Nat} (h : TN y z d) : zV y = zV z := funext (zV_congr (h.ar 4 (by decide) (by decide) (by decide)))
def nmS (z : NSt) (d s : Nat) : Nat := nmE (zV z) (zV z (z.2 6 d) (6 + s) % 4096)
theorem slot_lt {z : NSt} {T R : TRE} {tk : TKS} {PP : Nat → Nat} {ch : List Nat} (h : NW z T R tk PP ch) {d s : Nat} (hd : T.kd d = 2) (hs : s < 48) (hq : zV z (z.2 6 d) (6 + s) ≠ 0) : zV z (z.2 6 d) (6 + s) % 4096 < 2117 := by
  obtain ⟨g1, g2, -⟩ := h.tok.rng d (by omega)
  have hi := h.tok.ids d g1 g2
  have hp0 : z.2 6 d ≠ 0 := fun q => by
    have := hi.pl.mp q
    omega
  have hb2 := BPL_d (W := zV z) (P := z.2 6) hp0 g2 (by rw [(hi.kd (by omega)).1, hd]) hs
  have h3 := (h.wk.tr.rb h.wk.lg (n := d) (i := s) (by rw [hb2]; exact ((hi.dir hd).1.slot s hs hq).1)).2.2.1
  rw [hb2] at h3
  exact h3
theorem zV32 {z : NSt} {T R : TRE} {tk : TKS} {PP : Nat → Nat} {ch : List Nat} (h : NW z T R tk PP ch) (b i : Nat) : zV z b i < 2 ^ 32 := by
  by_cases c : i < 64
  · rw [zV_W c]; exact h.wk.wd 4 (by decide) (by decide) _
  · unfold zV cutW
    rw [if_neg c]; decide
theorem namesBefore_b {FU : Nat} (hF : 140000 < FU) {y z : NSt} {T R : TRE} {tk : TKS} {PP : Nat → Nat} {ch : List Nat} (h : NW z T R tk PP ch) {d p : Nat} (hd : T.kd d = 2) (ht : TN y z d) (hp : p < 2117) : ∀ (m i n c : Nat), i + m = 48 → m < n → Tre_namesBefore_b5 FU n (nI p) (nI c) (nI (6 + i)) (up y) = some (nI (c + sm (fun t => if zV z (z.2 6 d) (6 + (i + t)) ≠ 0 ∧ nmS z d (i + t) < nmE (zV z) p then 1 else 0) m)) := by
  intro m
  induction m with
  | zero =>
    intro i n c h1 h2
    obtain ⟨n, rfl⟩ : ∃ q9, n = q9 + 1 := ⟨n - 1, by omega⟩
    have h1 : i = 48 := h1
    unfold Tre_namesBefore_b5
    rw [h1, if_pos (show (54 : Int32) ≤ nI (6 + 48) by decide)]
    rfl
  | succ m ih =>
    intro i n c h1 h2
    obtain ⟨n, rfl⟩ : ∃ q9, n = q9 + 1 := ⟨n - 1, by omega⟩
    unfold Tre_namesBefore_b5 Tre_namesBefore_b41
    have e : sm (fun t => if zV z (z.2 6 d) (6 + (i + t)) ≠ 0 ∧ nmS z d (i + t) < nmE (zV z) p then 1 else 0) (m + 1) = (if zV z (z.2 6 d) (6 + i) ≠ 0 ∧ nmS z d i < nmE (zV z) p then 1 else 0) + sm (fun t => if zV z (z.2 6 d) (6 + (i + 1 + t)) ≠ 0 ∧ nmS z d (i + 1 + t) < nmE (zV z) p then 1 else 0) m := by
      rw [Nat.add_comm m 1, sm_cut]
      congr 1
      · exact Nat.zero_add _
      · exact sm_congr (fun t _ => by rw [show i + (1 + t) = i + 1 + t by omega])
    rw [e, if_neg (show ¬ (54 : Int32) ≤ nI (6 + i) from fun w => by
      rw [show (54 : Int32) = nI 54 from rfl, nI_leI (by decide) (by omega)] at w
      omega), rdA_z y 17 (by omega) (by decide), Option.bind_some, ht.i17 _ (by omega)]
    have w32 := zV32 h (z.2 6 d) (6 + i)
    by_cases c0 : zV z (z.2 6 d) (6 + i) = 0
    · rw [if_pos (show nI (zV z (z.2 6 d) (6 + i)) = (0 : Int32) by rw [c0]; rfl), if_neg (fun w => w.1 c0), nI_1, show 6 + i + 1 = 6 + (i + 1) by omega, ih (i + 1) n c (by omega) (by omega), Nat.zero_add]
    · rw [if_neg (ne0_I w32 c0), Option.bind_some, and4095 w32, isBefore_s hF (fun i => ht.wd 4 (by decide) (by decide) i) (slot_lt h hd (by omega) c0) hp, Option.bind_some, ht.V]
      show (if nI (if nmS z d i < nmE (zV z) p then 1 else 0) = (0 : Int32) then _ else _) = _
      by_cases c1 : nmS z d i < nmE (zV z) p
      · rw [if_pos c1, if_neg (show ¬ nI 1 = (0 : Int32) by decide), if_pos ⟨c0, c1⟩, nI_1, nI_1, show 6 + i + 1 = 6 + (i + 1) by omega, ih (i + 1) n (c + 1) (by omega) (by omega), Nat.add_assoc]
      · rw [if_neg c1, if_pos i00, if_neg (fun w => c1 w.2), nI_1, show 6 + i + 1 = 6 + (i + 1) by omega, ih (i + 1) n c (by omega) (by omega), Nat.zero_add]
theorem names_rnk {z : NSt} {T R : TRE} {tk : TKS} {PP : Nat → Nat} {ch : List Nat} (h : NW z T R tk PP ch) {d N : Nat} (hd : T.kd d = 2) : sm (fun t => if zV z (z.2 6 d) (6 + t) ≠ 0 ∧ nmS z d t < N then 1 else 0) 48 = rnk (T.ent d) N := by
  obtain ⟨g1, g2, -⟩ := h.tok.rng d (by omega)
  have hD := ((h.tok.ids d g1 g2).dir hd).1
  unfold rnk
  rw [sm_congr (f := fun i => if T.ent d i = 0 then 0 else 1) (g := fun i => if T.ent d i ≠ 0 then 1 else 0) (fun i _ => if01)]
  refine cnt_inj (f := nmS z d) (p := fun t => zV z (z.2 6 d) (6 + t) ≠ 0 ∧ nmS z d t < N) (q := fun n => T.ent d n ≠ 0) (fun s hs q => ?_) (fun n hn q => ?_) (fun s s' hs hs' q q' w => hD.dis s s' hs hs' q.1 q'.1 w)
  · obtain ⟨-, -, a3, a4, -, -⟩ := hD.slot s hs q.1
    exact ⟨q.2, by rw [show T.ent d (nmS z d s) = _ from a3]; exact a4⟩
  · obtain ⟨s, s1, s2, s3⟩ := hD.all n q
    exact ⟨s, s1, ⟨s2, by rw [show nmS z d s = n from s3]; exact hn⟩, s3⟩
theorem namesBefore_s {FU : Nat} (hF : 140000 < FU) {y z : NSt} {T R : TRE} {tk : TKS} {PP : Nat → Nat} {ch : List Nat} (h : NW z T R tk PP ch) {d p : Nat} (hd : T.kd d = 2) (ht : TN y z d) (hp : p < 2117) : Tre_namesBefore FU (nI p) (up y) = some (nI (rnk (T.ent d) (nmE (zV z) p))) := by
  unfold Tre_namesBefore
  have := namesBefore_b hF h hd ht hp 48 0 FU 0 (by omega) (by omega)
  rw [sm_congr (g := fun t => if zV z (z.2 6 d) (6 + t) ≠ 0 ∧ nmS z d t < nmE (zV z) p then 1 else 0) (fun t _ => by rw [Nat.zero_add]), names_rnk h hd, Nat.zero_add] at this
  exact this
/-- bytes are told -/
theorem tellB_b {FU : Nat} (k39 : Int32 → Int32 → St → Option (Int32 × St)) {z : NSt} {d l : Nat} (hl : l ≤ 20) (k s : Nat) {W : Nat → Nat} (Q : Int32 × St → Prop) (hq : ∀ y, TN y z d → y.1 1 = l → (∀ j, j < l → y.2 1 j = gb W j) → Ev (k39 (nI k) (nI (s + 1)) (up y)) Q) : ∀ (m i n : Nat) (y : NSt), i + m = l → m < n → TN y z d → (∀ j, j < 62 → y.2 18 (2 + j) = W j) → y.1 1 = i → (∀ j, j < i → y.2 1 j = gb W j) → Ev (Tre_tellName_b106 FU 1 k39 n (nI k) (nI s) (nI l) (nI i) (up y)) Q := by
  intro m
  induction m with
  | zero =>
    intro i n y h1 h2 ht h18 hy1 hyb
    obtain ⟨n, rfl⟩ : ∃ q9, n = q9 + 1 := ⟨n - 1, by omega⟩
    have h1 : i = l := h1
    subst h1
    unfold Tre_tellName_b106 Tre_tellName_b133
    rw [if_pos (nI_le (Nat.le_refl _) (by omega)), nI_1]
    exact hq y ht hy1 hyb
  | succ m ih =>
    intro i n y h1 h2 ht h18 hy1 hyb
    obtain ⟨n, rfl⟩ : ∃ q9, n = q9 + 1 := ⟨n - 1, by omega⟩
    unfold Tre_tellName_b106
    rw [if_neg (nI_ge (by omega) (by omega)), show (2 : Int32) = nI 2 from rfl, getByte_z FU y 18 (show 2 + i / 4 < 64 by omega) (by omega) (ht.wd 18 (by decide) (by decide) _), Option.bind_some, Row_add1 FU y (by omega), Option.bind_some, nI_1]
    have eg : gb (fun j => y.2 18 (2 + j)) i = gb W i := gb_congr (h18 _ (by omega))
    have hg := gb_lt W i
    rw [eg]
    obtain ⟨w, ew⟩ : ∃ w, w = zI (zA y 1 (y.1 1) (gb W i % 256)) 1 (y.1 1 + 1) := ⟨_, rfl⟩
    rw [← ew]
    have wa : ∀ a, a ≠ 1 → w.2 a = y.2 a := fun a ha => by rw [ew, zI2, zA2, if_neg ha]
    have w1 : ∀ k, k ≠ 1 → w.1 k = y.1 k := fun k hk => by rw [ew, zI1, if_neg hk]; rfl
    have wl : w.1 1 = i + 1 := by rw [ew, zI1, if_pos rfl, hy1]
    have wt : ∀ j, w.2 1 j = if j = i then gb W i else y.2 1 j := fun j => by
      rw [ew, zI2, zA2, if_pos rfl, hy1, Nat.mod_eq_of_lt hg]
      rfl
    refine ih (i + 1) n w (by omega) (by omega) ⟨fun a a1 a2 a3 => by rw [wa a a1]; exact ht.ar a a1 a2 a3, fun k hk => by rw [w1 k hk]; exact ht.sc k hk, fun j hj => by rw [wa 17 (by decide)]; exact ht.i17 j hj, fun a a1 a2 j => ?_⟩ (fun j hj => by rw [wa 18 (by decide)]; exact h18 j hj) wl (fun j hj => ?_)
    · by_cases c : a = 1
      · rw [c, wt]
        split
        · omega
        · exact ht.wd 1 (by decide) (by decide) j
      · rw [wa a c]; exact ht.wd a a1 a2 j
    · rw [wt]
      by_cases c : j = i
      · rw [if_pos c, c]
      · rw [if_neg c]; exact hyb j (by omega)
theorem tellName_b {FU : Nat} (hF : 140000 < FU) {z : NSt} {T R : TRE} {tk : TKS} {PP : Nat → Nat} {ch : List Nat} (h : NW z T R tk PP ch) {d k n0 : Nat} (hd : T.kd d = 2) (hk : k < 2 ^ 31) (hn0 : T.ent d n0 ≠ 0) (hr0 : rnk (T.ent d) n0 = k) : ∀ (m i n : Nat) (y : NSt), i + m = 48 → m < n → TN y z d → (((∃ t, i ≤ t ∧ t < 48 ∧ zV z (z.2 6 d) (6 + t) ≠ 0 ∧ nmS z d t = n0) ∧ y.1 1 = 0) ∨ ((∃ t, t < i ∧ zV z (z.2 6 d) (6 + t) ≠ 0 ∧ nmS z d t = n0) ∧ y.1 1 = nmL n0 ∧ ∀ j, j < nmL n0 → y.2 1 j = nmB n0 j)) → Ev (Tre_tellName_b39 FU 1 n (nI k) (nI i) (up y)) fun r => ∃ w, r = (nI (nmL n0), up w) ∧ TN w z d ∧ w.1 1 = nmL n0 ∧ ∀ j, j < nmL n0 → w.2 1 j = nmB n0 j := by
  obtain ⟨g1, g2, -⟩ := h.tok.rng d (by omega)
  have hD := ((h.tok.ids d g1 g2).dir hd).1
  intro m
  induction m with
  | zero =>
    intro i n y h1 h2 ht hy
    obtain ⟨n, rfl⟩ : ∃ q9, n = q9 + 1 := ⟨n - 1, by omega⟩
    have h1 : i = 48 := h1
    subst h1
    unfold Tre_tellName_b39 Row_length
    rw [if_pos (show (48 : Int32) ≤ nI 48 by decide), Option.bind_some, up1]
    rcases hy with ⟨⟨t, t1, t2, -⟩, -⟩ | ⟨-, y1, y2⟩
    · omega
    · rw [y1]
      exact Ev.ret ⟨y, rfl, ht, y1, y2⟩
  | succ m ih =>
    intro i n y h1 h2 ht hy
    obtain ⟨n, rfl⟩ : ∃ q9, n = q9 + 1 := ⟨n - 1, by omega⟩
    unfold Tre_tellName_b39
    have w32 := zV32 h (z.2 6 d) (6 + i)
    rw [if_neg (show ¬ (48 : Int32) ≤ nI i from fun w => by
      rw [show (48 : Int32) = nI 48 from rfl, nI_leI (by decide) (by omega)] at w
      omega), show (6 : Int32) + nI i = nI (6 + i) from nI_add 6 i, rdA_z y 17 (by omega) (by decide), Option.bind_some, ht.i17 _ (by omega), and4095 w32]
    have pass : ¬ (zV z (z.2 6 d) (6 + i) ≠ 0 ∧ nmS z d i = n0) → Ev (Tre_tellName_b133 FU 1 (Tre_tellName_b39 FU 1 n) (nI k) (nI i) (up y)) fun r => ∃ w, r = (nI (nmL n0), up w) ∧ TN w z d ∧ w.1 1 = nmL n0 ∧ ∀ j, j < nmL n0 → w.2 1 j = nmB n0 j := fun hno => by
      unfold Tre_tellName_b133
      rw [nI_1]
      refine ih (i + 1) n y (by omega) (by omega) ht ?_
      rcases hy with ⟨⟨t, t1, t2, t3, t4⟩, y1⟩ | ⟨⟨t, t1, t3, t4⟩, y1⟩
      · refine Or.inl ⟨⟨t, ?_, t2, t3, t4⟩, y1⟩
        by_cases c : t = i
        · rw [c] at t3 t4
          exact absurd ⟨t3, t4⟩ hno
        · omega
      · exact Or.inr ⟨⟨t, by omega, t3, t4⟩, y1⟩
    by_cases c0 : zV z (z.2 6 d) (6 + i) = 0
    · rw [if_pos (show nI (zV z (z.2 6 d) (6 + i) % 4096) = (0 : Int32) by rw [c0]; rfl)]
      exact pass (fun w => w.1 c0)
    · obtain ⟨a1, -, a3, a4, -, a6⟩ := hD.slot i (by omega) c0
      have hpl := slot_lt h hd (by omega) c0
      rw [if_neg (ne0_I (by omega) a1), namesBefore_s hF h hd ht hpl, Option.bind_some]
      have hsl : T.ent d (nmS z d i) ≠ 0 := by rw [show T.ent d (nmS z d i) = _ from a3]; exact a4
      have hrb : rnk (T.ent d) (nmS z d i) ≤ 48 := by
        rw [← names_rnk h hd]
        have := sm_bnd (f := fun t => if zV z (z.2 6 d) (6 + t) ≠ 0 ∧ nmS z d t < nmS z d i then 1 else 0) (n := 48) (c := 1) (fun t _ => by split <;> omega)
        omega
      show Ev (if nI (rnk (T.ent d) (nmS z d i)) = nI k then _ else _) _
      by_cases c1 : rnk (T.ent d) (nmS z d i) = k
      · have en : nmS z d i = n0 := rnk_inj hsl hn0 (by rw [c1, hr0])
        have hnl : NL n0 (zV z (zV z (z.2 6 d) (6 + i) % 4096) 1) := by rw [← en]; exact a6
        have hlen := hnl.len
        have hy0 : y.1 1 = 0 := by
          rcases hy with ⟨-, y1⟩ | ⟨⟨t, t1, t3, t4⟩, -⟩
          · exact y1
          · have := hD.dis t i (by omega) (by omega) t3 c0 (show nmS z d t = nmS z d i by rw [t4, en])
            omega
        rw [if_pos (by rw [c1]), Dev_load_e FU y 18 hpl (by decide), Option.bind_some]
        obtain ⟨x, ex⟩ : ∃ x, x = ldZ y 18 (zV z (z.2 6 d) (6 + i) % 4096) := ⟨_, rfl⟩
        have exx : zR y 18 (va_cpy (y.2 4) (y.2 18) (64 * (zV z (z.2 6 d) (6 + i) % 4096)) 0 64) = x := by rw [ex]; rfl
        rw [exx]
        have xa : ∀ a, a ≠ 18 → x.2 a = y.2 a := fun a ha => by rw [ex]; exact ld_b ha
        have x1 : x.1 = y.1 := by rw [ex]; rfl
        have x18 : ∀ j, j < 64 → x.2 18 j = zV z (zV z (z.2 6 d) (6 + i) % 4096) j := fun j hj => by
          rw [ex, ld_a hj, ← zV_W hj, ht.V]
        rw [show (1 : Int32) = nI 1 from rfl, rdA_z x 18 (by decide) (by decide), Option.bind_some, x18 1 (by decide), ← hlen]
        have hl20 : nmL n0 ≤ 20 := by rw [hlen]; exact hnl.2.1
        have e20 : (if (20 : Int32) < nI (nmL n0) then (20 : Int32) else nI (nmL n0)) = nI (nmL n0) := by
          rw [if_neg (show ¬ (20 : Int32) < nI (nmL n0) from fun w => by
            rw [show (20 : Int32) = nI 20 from rfl, nI_ltI (by decide) (by omega)] at w
            omega)]
        rw [e20]
        have hx : TN x z d := ⟨fun a b1 b2 b3 => by rw [xa a b3]; exact ht.ar a b1 b2 b3, fun k hk => by rw [x1]; exact ht.sc k hk, fun j hj => by rw [xa 17 (by decide)]; exact ht.i17 j hj, fun a b1 b2 j => by
          by_cases c : a = 18
          · rw [c, ex]
            unfold ldZ
            rw [zR2, if_pos rfl]
            unfold va_cpy
            split
            · exact ht.wd 4 (by decide) (by decide) _
            · exact ht.wd 18 (by decide) (by decide) _
          · rw [xa a c]; exact ht.wd a b1 b2 j⟩
        have hbyt : ∀ j, j < 20 → gb (fun i' => zV z (zV z (z.2 6 d) (6 + i) % 4096) (2 + i')) j = nmB n0 j := fun j hj => by
          have e1 : n0 = hn 256 (gb (fun i' => zV z (zV z (z.2 6 d) (6 + i) % 4096) (2 + i'))) 20 := by
            rw [← en]
            unfold nmS nmE
            rw [← hn_words (m := 5) (fun j _ => zV32 h _ _)]
          rw [e1, nm_dig (fun i _ => gb_lt _ _) hj]
        refine tellB_b (FU := FU) (Tre_tellName_b39 FU 1 n) hl20 k i (W := fun i' => zV z (zV z (z.2 6 d) (6 + i) % 4096) (2 + i')) _ (fun w w1 w2 w3 => ?_) (nmL n0) 0 FU x (by omega) (by omega) hx (fun j hj => x18 _ (by omega)) (by rw [x1]; exact hy0) (fun j hj => by omega)
        exact ih (i + 1) n w (by omega) (by omega) w1 (Or.inr ⟨⟨i, by omega, c0, en⟩, w2, fun j hj => by rw [w3 j hj]; exact hbyt j (by omega)⟩)
      · rw [if_neg (fun w => c1 ((nI_inj (by omega) (by omega)).mp w))]
        refine pass (fun w => c1 ?_)
        rw [w.2, hr0]
theorem cl_name {FU : Nat} (hF : 140000 < FU) {z : NSt} {A : AB} (h : FI z A) {d k : Nat} (hd : d < 2 ^ 32) (hk : k < 2 ^ 32) : Ans (FF_name FU (nI d) (nI k) (up z)) (nameA d k A) := by
  unfold nameA
  by_cases c : A.dv = 2
  · rw [pwrA_yes c]
    obtain ⟨hc, PP, ch, hfi⟩ := h.on c
    have nw := hfi.nw
    have hkl := nw.kle d
    unfold FF_name
    rw [pwr_yes FU hc c, Option.bind_some, if_pos (show (0 : Nat) = 0 from rfl), nw.kindOf FU hd, Option.bind_some]
    have bad : ¬ (A.T.kd d = 2 ∧ k < 2 ^ 31) → Ans (some (1, (0 : Int32), up z)) (if ¬ (A.T.kd d = 2 ∧ k < 2 ^ 31) then (1, 0, A) else if k < nmc (A.T.ent d) then (0, nmL (nth (A.T.ent d) k NNM), (A.w_tb (nmB (nth (A.T.ent d) k NNM))).w_ol (nmL (nth (A.T.ent d) k NNM))) else (0, neg1, A.w_ol 0)) := fun q => by
      rw [if_pos q]
      exact Ev.ret ⟨_, rfl, FI.mk hc c hfi⟩
    by_cases q0 : A.T.kd d = 2
    · rw [if_pos (show nI (A.T.kd d) = (2 : Int32) by rw [q0]; rfl)]
      by_cases q1 : (0 : Int32) ≤ nI k
      · rw [if_pos q1]
        rw [show (0 : Int32) = nI 0 from rfl, sGe (by decide) hk] at q1
        have ok : A.T.kd d = 2 ∧ k < 2 ^ 31 := ⟨q0, q1.2⟩
        rw [if_neg (not_not_intro ok)]
        obtain ⟨N, eN⟩ : ∃ N, N = NNM := ⟨_, rfl⟩
        rw [← eN]
        obtain ⟨g1, g2, -⟩ := nw.tok.rng d (by omega)
        have hful := nw.tok.tfa.full d q0
        have hi := nw.tok.ids d g1 g2
        unfold Tre_tellName Row_setLength
        rw [nx_eq, show (0 : Int32) = nI 0 from rfl, up_I, Option.bind_some]
        obtain ⟨x, ex⟩ : ∃ x, x = zI z 1 0 := ⟨_, rfl⟩
        have x1 : ∀ j, j ≠ 1 → x.1 j = z.1 j := fun j hj => by rw [ex, zI1, if_neg hj]
        have x0 : x.1 1 = 0 := by rw [ex, zI1, if_pos rfl]
        have x2 : x.2 = z.2 := by rw [ex]; rfl
        rw [← ex]
        have wx : WD x := fun a a1 a2 i => by rw [x2]; exact hc.wd a a1 a2 i
        have fx : FIN x A 0 PP ch := hfi.rows2 (fun j _ _ => x1 j (by omega)) (fun a _ _ => by rw [x2]) wx rfl rfl rfl rfl rfl rfl rfl rfl rfl
        rw [show (1 : Int32) = nI 1 from rfl, wordOf_n FU fx.nw.wk.pb hd (by decide), Option.bind_some, (fx.nw.siz q0).2]
        have ficw : ∀ (w : NSt) (tb : Nat → Nat) (L : Nat), (∀ a, a ≠ 1 → a ≠ 17 → a ≠ 18 → w.2 a = z.2 a) → (∀ j, j ≠ 1 → w.1 j = z.1 j) → WD w → w.1 1 = L → L ≤ 2000 → (∀ j, j < L → w.2 1 j = tb j) → (∀ j, j < L → tb j < 256) → FI w ((A.w_tb tb).w_ol L) := fun w tb L a1 a2 a3 a4 a5 a6 a7 => by
          have hbs := hc.bs
          refine FI.mk ⟨?_, a4, hc.tl, a5, ?_, a6, hc.tpb, a7, ?_, ?_, ?_, a3, ?_⟩ c (hfi.rows2 (fun j _ _ => a2 j (by omega)) (fun a _ _ => a1 a (by omega) (by omega) (by omega)) a3 rfl rfl rfl rfl rfl rfl rfl rfl rfl)
          · rw [a2 0 (by decide)]; exact hc.s0
          · intro i hi
            rw [a1 0 (by decide) (by decide) (by decide)]; exact hc.tp i hi
          · rw [a2 2 (by decide)]; exact hc.dv
          · rw [a2 3 (by decide)]; exact hc.ct
          · rw [a2 4 (by decide)]; exact hc.fw
          · unfold BS LGw zW at hbs ⊢
            rw [a1 4 (by decide) (by decide) (by decide), a1 5 (by decide) (by decide) (by decide), a1 6 (by decide) (by decide) (by decide), a1 9 (by decide) (by decide) (by decide), a1 12 (by decide) (by decide) (by decide)]
            exact hbs
        by_cases q2 : k < nmc (A.T.ent d)
        · rw [if_pos (nI_lt q2 (by omega)), if_pos q2]
          obtain ⟨n0, e1, e2, e3⟩ := nth_ex (e := A.T.ent d) (k := k) N (by rw [eN]; exact q2)
          have en := nth_eq e2 e3 N e1
          rw [en]
          obtain ⟨D, hDD⟩ : ∃ D, D = hi.dir q0 := ⟨_, rfl⟩
          obtain ⟨s, s1, s2, s3⟩ := D.1.all n0 e2
          obtain ⟨-, -, -, -, -, a6⟩ := D.1.slot s s1 s2
          rw [s3] at a6
          have hlen := a6.len
          have hl20 := a6.2.1
          have hp0 : z.2 6 d ≠ 0 := fun q => by
            have := hi.pl.mp q
            omega
          have hpb := nw.wk.pb d
          show Ev (((Tab_placeOf FU (nI d) (up x)).bind _).bind _) _
          rw [Tab_placeOf_z FU x (by omega), Option.bind_some]
          have ep : plZ x d = z.2 6 d := by
            unfold plZ
            rw [if_pos ⟨g1, by omega⟩, x2]
          rw [ep, Dev_load_e FU x 17 hpb (by decide), Option.bind_some]
          obtain ⟨y, ey⟩ : ∃ y, y = ldZ x 17 (z.2 6 d) := ⟨_, rfl⟩
          have eyy : zR x 17 (va_cpy (x.2 4) (x.2 17) (64 * z.2 6 d) 0 64) = y := by rw [ey]; rfl
          rw [eyy]
          have ya : ∀ a, a ≠ 17 → y.2 a = z.2 a := fun a ha => by rw [ey, ld_b ha, x2]
          have y1 : y.1 = x.1 := by rw [ey]; rfl
          have hT : TN y z d := ⟨fun a b1 b2 b3 => ya a b2, fun j hj => by rw [y1, x1 j hj], fun i hi => by
            rw [ey, ld_a hi, ← zV_W hi]
            exact congrFun (zV_congr (by rw [x2]) _) _, fun a b1 b2 j => by
            by_cases c : a = 17
            · rw [c, ey]
              unfold ldZ
              rw [zR2, if_pos rfl]
              unfold va_cpy
              split
              · exact wx 4 (by decide) (by decide) _
              · exact wx 17 (by decide) (by decide) _
            · rw [ya a c]; exact hc.wd a b1 b2 j⟩
          refine (tellName_b hF nw q0 q1.2 e2 e3 48 0 FU y (by omega) (by omega) hT (Or.inl ⟨⟨s, by omega, s1, s2, s3⟩, by rw [y1]; exact x0⟩)).bd ?_
          rintro _ ⟨w, rfl, w1, w2, w3⟩
          exact Ev.ret ⟨w, rfl, ficw w (nmB n0) (nmL n0) w1.ar w1.sc w1.wd w2 (by omega) w3 (fun j hj => (a6.dig (by omega)).1)⟩
        · rw [if_neg (nI_nlt (by omega) (by omega)), if_neg q2]
          refine Ev.ret ⟨x, rfl, ?_⟩
          exact ficw x A.tb 0 (fun a _ _ _ => by rw [x2]) (fun j hj => x1 j hj) wx x0 (by omega) (fun j hj => by omega) (fun j hj => by omega)
      · rw [if_neg q1]
        rw [show (0 : Int32) = nI 0 from rfl, sGe (by decide) hk] at q1
        exact bad (fun w => by omega)
    · rw [if_neg (fun w : nI (A.T.kd d) = (2 : Int32) => q0 ((eqN (by omega) (c := 2) (by decide)).mp w))]
      exact bad (fun w => q0 w.1)
  · rw [pwrA_no c]
    unfold FF_name
    rw [pwr_no FU h c, Option.bind_some, if_neg (show ¬ (2 : Nat) = 0 by decide)]
    exact Ans.no h 2
