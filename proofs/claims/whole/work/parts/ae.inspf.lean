/-! the inspector: files, nodes -/
theorem placeOfBlock_s (FU : Nat) {y z : NSt} {T R : TRE} {tk : TKS} {PP : Nat → Nat} {ch : List Nat} (hN : NW z T R tk PP ch) (h : IS y z) {id k : Nat} (hk1 : T.kd id = 1) (hk : k < 412) : Ins_placeOfBlock FU (nI (z.2 6 id)) (nI k) (up y) = some (nI (bpF (zV z) (z.2 6) id k)) := by
  obtain ⟨g1, g2, -⟩ := hN.tok.rng id (by omega)
  have hno := ((hN.tok.ids id g1 g2).fil hk1).2.2
  have hp := hN.wk.pb id
  unfold Ins_placeOfBlock bpF
  by_cases c : k < 20
  · rw [if_neg (show ¬ (20 : Int32) ≤ nI k from fun w => by
      rw [show (20 : Int32) = nI 20 from rfl, nI_leI (by decide) (by omega)] at w
      omega), if_pos c, show (6 : Int32) + nI k = nI (6 + k) from nI_add 6 k, h.word FU hp (by omega), Option.bind_some]
  · have e1 : (nI k - (20 : Int32)) / (56 : Int32) = nI ((k - 20) / 56) := by
      simp (disch := omega) only [lit_nI, nI_ltI, nI_leI, nI_eq, nI_add, pk_sub, pk_div, nI_64, rdA_z, wrA_z, cpy_z, up1, up_I, nz_n0, nz_n1, zI1, zI2, zR1, zR2, zA1, zA2, Option.bind_some, nx_eq, if_true, if_false, if_pos, if_neg]
    have e2 : (nI k - (20 : Int32)) - (nI k - (20 : Int32)) / (56 : Int32) * (56 : Int32) = nI ((k - 20) % 56) := by
      rw [e1, show (56 : Int32) = nI 56 from rfl, pk_mul, show (20 : Int32) = nI 20 from rfl, pk_sub (by omega), pk_sub (by omega)]
      congr 1
      omega
    have hj : (k - 20) / 56 ≤ 6 := by omega
    have b88 : ∀ v, (v = 0 ∨ (1 ≤ v ∧ v < 2048)) → Ins_placeOfBlock_b88 FU (nI k) (nI v) (up y) = some (nI (if v = 0 then 0 else zV z (z.2 6 v) ((k - 20) % 56))) := fun v hv => by
      unfold Ins_placeOfBlock_b88
      by_cases c0 : v = 0
      · rw [c0, if_pos i00, if_pos rfl]; rfl
      · have hpv := hN.wk.pb v
        rw [if_neg (ne0_I (by omega) c0), if_neg c0, h.pl hN FU (by omega), Option.bind_some, e2, h.word FU hpv (by omega), Option.bind_some]
    rw [if_pos (show (20 : Int32) ≤ nI k from nI_le (a := 20) (by omega) (by omega)), if_neg c, e1]
    obtain ⟨q, eq⟩ : ∃ q, q = (k - 20) / 56 := ⟨_, rfl⟩
    rw [← eq]
    rw [← eq] at hj
    have hrng : NB (zV z) (z.2 6) id (1 + q) = 0 ∨ (1 ≤ NB (zV z) (z.2 6) id (1 + q) ∧ NB (zV z) (z.2 6) id (1 + q) < 2048) := by
      by_cases w : NB (zV z) (z.2 6) id (1 + q) = 0
      · exact Or.inl w
      · have := hno.rng (1 + q) (by omega) w
        exact Or.inr ⟨by omega, this.2.1⟩
    by_cases c2 : 2 ≤ q
    · have w28 := zV32 hN (z.2 6 id) 28
      have h28 : zV z (z.2 6 id) 28 = 0 ∨ (zV z (z.2 6 id) 28 < 2048 ∧ z.2 6 (zV z (z.2 6 id) 28) ≠ 0) := by
        by_cases w : zV z (z.2 6 id) 28 = 0
        · exact Or.inl w
        · have := hno.rng 0 (by omega) w
          exact Or.inr ⟨this.2.1, this.2.2.1⟩
      rw [if_pos (show (2 : Int32) ≤ nI q from nI_le (a := 2) c2 (by omega)), show (28 : Int32) = nI 28 from rfl, h.word FU hp (by decide), Option.bind_some, h.pl hN FU (by omega), Option.bind_some]
      have eNB : NB (zV z) (z.2 6) id (1 + q) = if zV z (z.2 6 id) 28 = 0 then 0 else zV z (z.2 6 (zV z (z.2 6 id) 28)) (q - 2) := by
        unfold NB
        rw [if_neg (by omega), if_neg (by omega), show 1 + q - 3 = q - 2 by omega]
      unfold Ins_placeOfBlock_b53
      rcases h28 with w | ⟨w1, w2⟩
      · rw [w, hN.p0, if_pos i00, show (0 : Int32) = nI 0 from rfl, b88 0 (Or.inl rfl), if_pos rfl, eNB, if_pos w, if_pos rfl]
      · have w0 : zV z (z.2 6 id) 28 ≠ 0 := fun v => w2 (by rw [v]; exact hN.p0)
        have hpp := hN.wk.pb (zV z (z.2 6 id) 28)
        have h32 := hN.wk.wd 6 (by decide) (by decide) (zV z (z.2 6 id) 28)
        rw [if_neg (ne0_I h32 w2), if_pos (show (2 : Int32) ≤ nI q from nI_le (a := 2) c2 (by omega))]
        unfold Ins_placeOfBlock_b85
        rw [show (2 : Int32) = nI 2 from rfl, pk_sub (by omega), h.word FU hpp (by omega), Option.bind_some]
        rw [if_neg w0] at eNB
        rw [← eNB, b88 _ hrng]
    · rw [if_neg (show ¬ (2 : Int32) ≤ nI q from fun w => by
        rw [show (2 : Int32) = nI 2 from rfl, nI_leI (by decide) (by omega)] at w
        omega)]
      have eNB : NB (zV z) (z.2 6) id (1 + q) = zV z (z.2 6 id) (26 + q) := by
        unfold NB
        rw [if_neg (by omega), if_pos (by omega), show 25 + (1 + q) = 26 + q by omega]
      have hp0 : z.2 6 id ≠ 0 := fun v => by
        have := (hN.tok.ids id g1 g2).pl.mp v
        omega
      have h32 := hN.wk.wd 6 (by decide) (by decide) id
      unfold Ins_placeOfBlock_b53
      rw [if_neg (ne0_I h32 hp0), if_neg (show ¬ (2 : Int32) ≤ nI q from fun w => by
        rw [show (2 : Int32) = nI 2 from rfl, nI_leI (by decide) (by omega)] at w
        omega)]
      unfold Ins_placeOfBlock_b85
      rw [show (26 : Int32) + nI q = nI (26 + q) from nI_add 26 q, h.word FU hp (by omega), Option.bind_some, ← eNB, b88 _ hrng]
theorem bp_far {z : NSt} {T R : TRE} {tk : TKS} {PP : Nat → Nat} {ch : List Nat} (hN : NW z T R tk PP ch) {id : Nat} (hk1 : T.kd id = 1) {r : Nat} (hr : r = 391 ∨ (r = 20 ∧ ∀ j, j < 3 → zV z (z.2 6 id) (26 + j) = 0)) : ∀ k, r ≤ k → k < 412 → bpF (zV z) (z.2 6) id k = 0 := fun k k1 k2 => by
  obtain ⟨g1, g2, -⟩ := hN.tok.rng id (by omega)
  have hf := ((hN.tok.ids id g1 g2).fil hk1).1
  rcases hr with rfl | ⟨rfl, h0⟩
  · refine Classical.byContradiction (fun w => ?_)
    have := hf.lim k k2 w
    have := hf.szb
    omega
  · unfold bpF
    rw [if_neg (by omega), if_pos]
    unfold NB
    rw [if_neg (by omega)]
    split
    · rw [show 25 + (1 + (k - 20) / 56) = 26 + (k - 20) / 56 by omega]
      exact h0 _ (by omega)
    · rw [if_pos (h0 2 (by decide))]
theorem inspF2_b {FU : Nat} (hF : 140000 < FU) {z : NSt} {T R : TRE} {tk : TKS} {PP : Nat → Nat} {ch : List Nat} (hN : NW z T R tk PP ch) {Cl : Nat → Prop} {f : Nat → Nat} {id : Nat} (hk1 : T.kd id = 1) {r : Nat} (hr : r = 391 ∨ (r = 20 ∧ ∀ j, j < 3 → zV z (z.2 6 id) (26 + j) = 0)) {y : NSt} (h : IV y z Cl f) : ∀ (m i n : Nat), i + m = r → m < n →
    Ev (Ins_inspectFile_b119 FU n (nI (z.2 6 id)) (nI (T.fil id).sz) (nI r) (nI (sm (fun k => if bpF (zV z) (z.2 6) id k = 0 then 0 else 1) i)) (nI i) (up y)) fun x => ∃ w, x = up w ∧ IV w z Cl f := by
  obtain ⟨g1, g2, -⟩ := hN.tok.rng id (by omega)
  have hf := ((hN.tok.ids id g1 g2).fil hk1).1
  have hp := hN.wk.pb id
  have hr4 : r ≤ 391 := by omega
  intro m
  induction m with
  | zero =>
    intro i n h1 h2
    obtain ⟨n, rfl⟩ : ∃ q9, n = q9 + 1 := ⟨n - 1, by omega⟩
    have h1 : i = r := h1
    subst h1
    have e : sm (fun k => if bpF (zV z) (z.2 6) id k = 0 then 0 else 1) i = zV z (z.2 6 id) 4 := by
      rw [hf.there, show (412 : Nat) = i + (412 - i) by omega, sm_cut, sm_zero (f := fun k => if bpF (zV z) (z.2 6) id (i + k) = 0 then 0 else 1) (fun k hk => if_pos (bp_far hN hk1 hr _ (by omega) (by omega)))]
      rfl
    unfold Ins_inspectFile_b119 Ins_inspectFile_b184 Ins_inspectFile_b212 Ins_inspectFile_b217
    rw [if_pos (nI_le (Nat.le_refl _) (by omega)), show (4 : Int32) = nI 4 from rfl, h.is.word FU hp (by decide), Option.bind_some, e, if_pos rfl, exp1, Option.bind_some, show (3 : Int32) = nI 3 from rfl, h.is.word FU hp (by decide), Option.bind_some, hf.sml]
    have done : Ev (Option.bind (Ins_expect FU (1 : Int32) (up y)) fun p1 => some p1) fun x => ∃ w, x = up w ∧ IV w z Cl f := by
      rw [exp1, Option.bind_some]
      exact Ev.ret ⟨y, rfl, h⟩
    have hsb := hf.smb
    by_cases c : (T.fil id).sm = 0
    · rw [c, if_pos i00]
      exact done
    · obtain ⟨s1, s2⟩ := hf.small (by omega)
      have e0 : zV z (z.2 6 id) 4 = 0 := by
        rw [hf.there]
        exact sm_zero (fun k hk => if_pos (s2 k hk))
      rw [if_neg (ne0_I (by omega) c), e0, if_pos i00, if_neg (show ¬ (96 : Int32) < nI (T.fil id).sz from fun w => by
        rw [show (96 : Int32) = nI 96 from rfl, nI_ltI (by decide) (by omega)] at w
        omega)]
      exact done
  | succ m ih =>
    intro i n h1 h2
    obtain ⟨n, rfl⟩ : ∃ q9, n = q9 + 1 := ⟨n - 1, by omega⟩
    unfold Ins_inspectFile_b119
    rw [if_neg (nI_ge (by omega) (by omega)), placeOfBlock_s FU hN h.is hk1 (by omega), Option.bind_some]
    have hb32 : bpF (zV z) (z.2 6) id i < 2 ^ 32 := by
      unfold bpF
      split
      · exact zV32 hN _ _
      · split
        · decide
        · exact zV32 hN _ _
    by_cases c : bpF (zV z) (z.2 6) id i = 0
    · unfold Ins_inspectFile_b158
      rw [if_pos (show nI (bpF (zV z) (z.2 6) id i) = (0 : Int32) by rw [c]; rfl), nI_1]
      have := ih (i + 1) n (by omega) (by omega)
      have e : sm (fun k => if bpF (zV z) (z.2 6) id k = 0 then 0 else 1) (i + 1) = sm (fun k => if bpF (zV z) (z.2 6) id k = 0 then 0 else 1) i := by
        show _ + (if bpF (zV z) (z.2 6) id i = 0 then 0 else 1) = _
        rw [if_pos c, Nat.add_zero]
      rw [e] at this
      exact this
    · have hlim := hf.lim i (by omega) c
      have hszb := hf.szb
      have ebb : FF_blocksBegun FU (nI (T.fil id).sz) (up y) = some (nI (((T.fil id).sz + 255) / 256)) := by
        unfold FF_blocksBegun
        have e : (T.fil id).sz + 256 - 1 = (T.fil id).sz + 255 := by omega
        simp (disch := omega) only [lit_nI, nI_ltI, nI_leI, nI_eq, nI_add, pk_sub, pk_div, nI_64, rdA_z, wrA_z, cpy_z, up1, up_I, nz_n0, nz_n1, zI1, zI2, zR1, zR2, zA1, zA2, Option.bind_some, nx_eq, if_true, if_false, if_pos, if_neg, e]
      unfold Ins_inspectFile_b155 Ins_inspectFile_b158
      rw [if_neg (ne0_I hb32 c), ebb, Option.bind_some, if_neg (nI_ge (by omega) (by omega)), exp1, Option.bind_some, nI_1, nI_1]
      have := ih (i + 1) n (by omega) (by omega)
      have e : sm (fun k => if bpF (zV z) (z.2 6) id k = 0 then 0 else 1) (i + 1) = sm (fun k => if bpF (zV z) (z.2 6) id k = 0 then 0 else 1) i + 1 := by
        show _ + (if bpF (zV z) (z.2 6) id i = 0 then 0 else 1) = _
        rw [if_neg c]
      rw [e] at this
      exact this
def flg (n : Nat) : Nat := if n = 0 then 0 else 1
theorem or01 : ∀ a b, a ≤ 1 → b ≤ 1 → nI a ||| nI b = nI (flg (a + b)) := by
  intro a b ha hb
  rcases (show a = 0 ∨ a = 1 by omega) with rfl | rfl <;> rcases (show b = 0 ∨ b = 1 by omega) with rfl | rfl <;> decide
theorem inspF_b {FU : Nat} (hF : 140000 < FU) {z : NSt} {T R : TRE} {tk : TKS} {PP : Nat → Nat} {ch : List Nat} (hN : NW z T R tk PP ch) {Cl : Nat → Prop} {f : Nat → Nat} {id : Nat} (hk1 : T.kd id = 1) (hf0 : ∀ t, f t ≤ 150000) : ∀ (m i n : Nat) (y : NSt), i + m = 3 → m < n → IV y z Cl (fun t => f t + sm (fun j => if zV z (z.2 6 id) (26 + j) = t then 1 else 0) i) →
    Ev (Ins_inspectFile_b6 FU n (nI id) (nI (z.2 6 id)) (nI (flg (sm (fun j => if zV z (z.2 6 id) (26 + j) = 0 then 0 else 1) i))) (nI (26 + i)) (up y)) fun x => ∃ w, x = up w ∧ IV w z Cl (fun t => f t + sm (fun j => if zV z (z.2 6 id) (26 + j) = t then 1 else 0) 3) := by
  obtain ⟨g1, g2, -⟩ := hN.tok.rng id (by omega)
  have hf := ((hN.tok.ids id g1 g2).fil hk1).1
  have hno := ((hN.tok.ids id g1 g2).fil hk1).2.2
  have hp := hN.wk.pb id
  have hNB : ∀ j, j < 3 → zV z (z.2 6 id) (26 + j) = 0 ∨ (1 ≤ zV z (z.2 6 id) (26 + j) ∧ zV z (z.2 6 id) (26 + j) < 2048 ∧ z.2 6 (zV z (z.2 6 id) (26 + j)) ≠ 0 ∧ zV z (z.2 6 (zV z (z.2 6 id) (26 + j))) 61 = id) := fun j hj => by
    by_cases w : zV z (z.2 6 id) (26 + j) = 0
    · exact Or.inl w
    · obtain ⟨j', hj', e⟩ : ∃ j', j' ≤ 7 ∧ NB (zV z) (z.2 6) id j' = zV z (z.2 6 id) (26 + j) := by
        by_cases c : j = 2
        · exact ⟨0, by omega, by rw [c]; rfl⟩
        · refine ⟨1 + j, by omega, ?_⟩
          unfold NB
          rw [if_neg (by omega), if_pos (by omega), show 25 + (1 + j) = 26 + j by omega]
      have := hno.rng j' hj' (by rw [e]; exact w)
      rw [e] at this
      exact Or.inr ⟨by omega, this.2.1, this.2.2.1, this.2.2.2.1⟩
  intro m
  induction m with
  | zero =>
    intro i n y h1 h2 h
    obtain ⟨n, rfl⟩ : ∃ q9, n = q9 + 1 := ⟨n - 1, by omega⟩
    have h1 : i = 3 := h1
    subst h1
    unfold Ins_inspectFile_b6 Ins_inspectFile_b111
    rw [if_pos (show (28 : Int32) < nI (26 + 3) by decide), show (1 : Int32) = nI 1 from rfl, h.is.word FU hp (by decide), Option.bind_some, hf.sz]
    by_cases c : sm (fun j => if zV z (z.2 6 id) (26 + j) = 0 then 0 else 1) 3 = 0
    · rw [if_pos (show nI (flg (sm (fun j => if zV z (z.2 6 id) (26 + j) = 0 then 0 else 1) 3)) = (0 : Int32) by rw [c]; rfl)]
      exact inspF2_b hF hN hk1 (Or.inr ⟨rfl, fun j hj => by
        have := sm_z c hj
        by_cases w : zV z (z.2 6 id) (26 + j) = 0
        · exact w
        · rw [if_neg w] at this; omega⟩) h 20 0 FU (by omega) (by omega)
    · have ebb : FF_blocksBegun FU (100000 : Int32) (up y) = some (nI 391) := by
        unfold FF_blocksBegun
        decide
      rw [if_neg (show ¬ nI (flg (sm (fun j => if zV z (z.2 6 id) (26 + j) = 0 then 0 else 1) 3)) = (0 : Int32) by
        unfold flg
        rw [if_neg c]
        decide), ebb, Option.bind_some]
      exact inspF2_b hF hN hk1 (Or.inl rfl) h 391 0 FU (by omega) (by omega)
  | succ m ih =>
    intro i n y h1 h2 h
    obtain ⟨n, rfl⟩ : ∃ q9, n = q9 + 1 := ⟨n - 1, by omega⟩
    unfold Ins_inspectFile_b6 Ins_inspectFile_b59 Ins_inspectFile_b64 Ins_inspectFile_b78
    have w32 := zV32 hN (z.2 6 id) (26 + i)
    rw [if_neg (show ¬ (28 : Int32) < nI (26 + i) from fun w => by
      rw [show (28 : Int32) = nI 28 from rfl, nI_ltI (by decide) (by omega)] at w
      omega), h.is.word FU hp (by omega), Option.bind_some]
    have hbb := sm1b (p := fun j => zV z (z.2 6 id) (26 + j) = zV z (z.2 6 id) (26 + i)) i
    have hff := hf0 (zV z (z.2 6 id) (26 + i))
    refine (lead_s FU hN h (x := zV z (z.2 6 id) (26 + i)) ((hNB i (by omega)).elim Or.inl (fun w => Or.inr ⟨w.1, w.2.1, w.2.2.1⟩)) (by omega)).bd ?_
    rintro _ ⟨w, rfl, hw, -⟩
    have hw : IV w z Cl (fun t => f t + sm (fun j => if zV z (z.2 6 id) (26 + j) = t then 1 else 0) (i + 1)) := hw.wk (fun b _ => Iff.rfl) (fun t _ _ => (Nat.add_assoc _ _ _).symm)
    have hfl : flg (sm (fun j => if zV z (z.2 6 id) (26 + j) = 0 then 0 else 1) i) ≤ 1 := by unfold flg; split <;> omega
    have go := ih (i + 1) n w (by omega) (by omega) hw
    have es : sm (fun j => if zV z (z.2 6 id) (26 + j) = 0 then 0 else 1) (i + 1) = sm (fun j => if zV z (z.2 6 id) (26 + j) = 0 then 0 else 1) i + (if zV z (z.2 6 id) (26 + i) = 0 then 0 else 1) := rfl
    rcases hNB i (by omega) with c | ⟨c1, c2, c3, c4⟩
    · rw [if_pos c, Nat.add_zero] at es
      rw [es] at go
      rw [if_pos (show nI (zV z (z.2 6 id) (26 + i)) = (0 : Int32) by rw [c]; rfl), exp1, Option.bind_some, if_pos (show nI (zV z (z.2 6 id) (26 + i)) = (0 : Int32) by rw [c]; rfl), show (0 : Int32) = nI 0 from rfl, or01 _ 0 hfl (by decide), nI_1, show 26 + i + 1 = 26 + (i + 1) by omega]
      have e2 : flg (flg (sm (fun j => if zV z (z.2 6 id) (26 + j) = 0 then 0 else 1) i) + 0) = flg (sm (fun j => if zV z (z.2 6 id) (26 + j) = 0 then 0 else 1) i) := by
        unfold flg
        split <;> rfl
      rw [e2]
      exact go
    · have c0 : zV z (z.2 6 id) (26 + i) ≠ 0 := by omega
      have hpb := hN.wk.pb (zV z (z.2 6 id) (26 + i))
      rw [if_neg c0] at es
      rw [es] at go
      rw [if_neg (ne0_I w32 c0), hw.is.pl hN FU (by omega), Option.bind_some, show (61 : Int32) = nI 61 from rfl, hw.is.word FU hpb (by decide), Option.bind_some, c4, if_pos rfl, exp1, Option.bind_some, if_neg (ne0_I w32 c0), show (1 : Int32) = nI 1 from rfl, or01 _ 1 hfl (by decide), nI_add, show 26 + i + 1 = 26 + (i + 1) by omega]
      have e2 : flg (flg (sm (fun j => if zV z (z.2 6 id) (26 + j) = 0 then 0 else 1) i) + 1) = flg (sm (fun j => if zV z (z.2 6 id) (26 + j) = 0 then 0 else 1) i + 1) := by
        unfold flg
        rw [if_neg (by omega), if_neg (by omega)]
      rw [e2]
      exact go
