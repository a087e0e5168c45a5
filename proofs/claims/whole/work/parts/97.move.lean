/-! the cleaner moves a node and what it leads to -/
/-- a block that can still be written -/
abbrev AV (z : NSt) (b : Nat) : Prop := z.2 12 (sg b) ≠ 0 ∨ (sg b = sg (z.1 8) ∧ z.1 8 ≤ b) ∨ (sg b = sg (z.1 9) ∧ z.1 9 ≤ b)
def AVK (z y : NSt) : Prop := ∀ b, 69 ≤ b → AV z b → y.2 5 b ≠ 0 ∨ AV y b
theorem AVK.rf (z : NSt) : AVK z z := fun _ _ h => Or.inr h
theorem AVK.trans {x y z : NSt} (h : AVK x y) (k : KW y z) (g : AVK y z) : AVK x z := fun b hb a => by
  rcases h b hb a with q | q
  · exact Or.inl (k.1 b q).1
  · exact g b hb q
theorem AVK.same {z y : NSt} (h12 : y.2 12 = z.2 12) (h8 : y.1 8 = z.1 8) (h9 : y.1 9 = z.1 9) : AVK z y := fun b _ a => Or.inr (by unfold AV; rw [h12, h8, h9]; exact a)
theorem NXE.av {z y : NSt} {E O : Nat} (hE : (E = 8 ∧ O = 9) ∨ (E = 9 ∧ O = 8)) (h : NXE E z y) (hO : y.1 O = z.1 O) (h69 : 69 ≤ z.1 E) (hw : y.2 5 (z.1 E) ≠ 0) : AVK z y := by
  intro b hb a
  have mk : (sg b = sg (y.1 E) ∧ y.1 E ≤ b) → AV y b := fun q => by
    rcases hE with ⟨rfl, rfl⟩ | ⟨rfl, rfl⟩
    · exact Or.inr (Or.inl q)
    · exact Or.inr (Or.inr q)
  have mkO : (sg b = sg (z.1 O) ∧ z.1 O ≤ b) → AV y b := fun q => by
    rw [← hO] at q
    rcases hE with ⟨rfl, rfl⟩ | ⟨rfl, rfl⟩
    · exact Or.inr (Or.inr q)
    · exact Or.inr (Or.inl q)
  have a' : z.2 12 (sg b) ≠ 0 ∨ (sg b = sg (z.1 E) ∧ z.1 E ≤ b) ∨ (sg b = sg (z.1 O) ∧ z.1 O ≤ b) := by
    rcases hE with ⟨rfl, rfl⟩ | ⟨rfl, rfl⟩
    · exact a
    · rcases a with q | q | q
      · exact Or.inl q
      · exact Or.inr (Or.inr q)
      · exact Or.inr (Or.inl q)
  rcases a' with q | ⟨q1, q2⟩ | q
  · rcases h with ⟨-, -, n3⟩ | ⟨-, s, -, n2, n3⟩
    · exact Or.inr (Or.inl (by rw [n3]; exact q))
    · by_cases c : sg b = s
      · refine Or.inr (mk ⟨?_, ?_⟩)
        · rw [n2, c]
          unfold sg
          omega
        · rw [n2]
          unfold sg at c
          omega
      · exact Or.inr (Or.inl (by rw [n3, va_up_ne _ _ c]; exact q))
  · by_cases c : b = z.1 E
    · rw [c]; exact Or.inl hw
    · rcases h with ⟨n1, n2, -⟩ | ⟨n1, -⟩
      · refine Or.inr (mk ⟨?_, by omega⟩)
        rw [q1, n1]
        unfold sg
        omega
      · unfold sg at q1
        omega
  · exact Or.inr (mkO q)
theorem PD.av {z y : NSt} {a : Nat} (h : PD z a y) : AVK z y := by
  obtain ⟨q4, q5, q9, qn, qs, qu, qw0, qu0, q69, q70, q12, qsg, qx⟩ := h
  exact NXE.av (E := 9) (O := 8) (Or.inr ⟨rfl, rfl⟩) qx (qs 8 (by decide) (by decide) (by decide)) q69 (by rw [q5, va_up_self]; decide)
theorem PN.av {z y : NSt} {a n k : Nat} (h : PN z a n k y) : AVK z y := by
  obtain ⟨p4, p5, p6, p9, pA, pr, ps, pu, pw0, pu0, p69, p70, pne, p12, psg, px⟩ := h
  exact NXE.av (E := 8) (O := 9) (Or.inl ⟨rfl, rfl⟩) px (ps 9 (by decide) (by decide) (by decide)) p69 (by rw [p5, va_up_self]; decide)
/-- how many blocks are in use -/
def un (z : NSt) : Nat := sm (fun b => if z.2 9 b = 0 then 0 else 1) 2117
theorem un_up {z y : NSt} {b v : Nat} (hb : b < 2117) (h : y.2 9 = va_up (z.2 9) b v) : un y + (if z.2 9 b = 0 then 0 else 1) = un z + (if v = 0 then 0 else 1) := by
  unfold un
  have hs := sm_up (f := fun b => if z.2 9 b = 0 then 0 else 1) (i := b) (v := if v = 0 then 0 else 1) (n := 2117) hb
  have e : sm (fun c => if y.2 9 c = 0 then 0 else 1) 2117 = sm (va_up (fun b => if z.2 9 b = 0 then 0 else 1) b (if v = 0 then 0 else 1)) 2117 := sm_congr (fun c _ => by
    rw [h]
    unfold va_up
    by_cases d : c = b
    · rw [if_pos d, if_pos d]
    · rw [if_neg d, if_neg d])
  rw [e]
  exact hs
theorem un_congr {z y : NSt} (h : y.2 9 = z.2 9) : un y = un z := by
  unfold un
  rw [h]
theorem msk12 : ∀ j, j < 32 → (4294963200 : Nat).testBit j = decide (12 ≤ j) := by decide +kernel
theorem and_hi {w : Nat} (hw : w < 2 ^ 32) : w &&& 4294963200 = w / 4096 * 4096 := by
  refine Nat.eq_of_testBit_eq (fun j => ?_)
  rw [Nat.testBit_and, show (4096 : Nat) = 2 ^ 12 from rfl, Nat.testBit_mul_two_pow]
  by_cases c : j < 32
  · rw [msk12 j c, Nat.testBit_div_two_pow]
    by_cases d : 12 ≤ j
    · rw [decide_eq_true d, Bool.and_true, Bool.true_and, show j - 12 + 12 = j by omega]
    · rw [decide_eq_false d, Bool.and_false, Bool.false_and]
  · have h1 : w.testBit j = false := Nat.testBit_lt_two_pow (Nat.lt_of_lt_of_le hw (Nat.pow_le_pow_right (by decide) (by omega)))
    rw [h1, Bool.false_and, Nat.testBit_div_two_pow]
    by_cases d : 12 ≤ j
    · rw [show j - 12 + 12 = j by omega, h1, Bool.and_false]
    · rw [decide_eq_false d, Bool.false_and]
theorem slot_mv {w D : Nat} (hw : w < 2 ^ 32) (hD : D < 4096) : (nI w &&& (-4096 : Int32)) ||| nI D = nI (w / 4096 * 4096 + D) := by
  rw [show (-4096 : Int32) = nI 4294963200 by decide, nI_and, and_hi hw, nI_or]
  exact congrArg nI (or_pl hD)
/-- a segment that is to be emptied -/
abbrev vic (z : NSt) (b : Nat) : Prop := 69 ≤ b ∧ z.2 19 (sg b) ≠ 0
theorem mustLeave_z (FU : Nat) {z : NSt} {b : Nat} (hb : b < 2117) (hv : ∀ s, s < 128 → z.2 19 s ≤ 1) : Cle_mustLeave FU (nI b) (up z) = some (nI (if vic z b then 1 else 0)) := by
  unfold Cle_mustLeave
  by_cases c : 69 ≤ b
  · have hs := sg_lt c hb
    rw [segmentOf_in FU _ c hb, Option.bind_some, if_neg (nI_pos (by omega)), rdA_z z 19 hs (by decide), Option.bind_some]
    have := hv (sg b) hs
    by_cases d : z.2 19 (sg b) = 0
    · have d' : nI (z.2 19 (sg b)) = 0 := by rw [d]; rfl
      rw [if_pos d', if_neg (fun q => q.2 d)]; rfl
    · rw [if_neg (ne0_I (by omega) d), if_pos ⟨c, d⟩]; rfl
  · rw [segmentOf_out FU _ (by omega) (Or.inl (by omega)), Option.bind_some, if_pos neg_lt0, if_neg (fun q => c q.1)]; rfl
/-- how many of a node's blocks must leave -/
def mvc (z : NSt) (id base m : Nat) : Nat := sm (fun j => if vic z (BPL (zV z) (z.2 6) id (base + j)) then 1 else 0) m
def MVL (z x : NSt) (R : TRE) (tk : TKS) (PP : Nat → Nat) (ch : List Nat) (n id base fr i : Nat) (bp : Nat → Nat) : Prop := (WK x (va_up (BPL (zV z) (z.2 6)) id bp) R tk PP ch) ∧ (KW z x) ∧ (∀ c, c ≠ 4 → c ≠ 5 → c ≠ 9 → c ≠ 10 → c ≠ 11 → c ≠ 12 → c ≠ 20 → c ≠ 21 → x.2 c = z.2 c) ∧ (∀ k, k ≠ 7 → k ≠ 9 → k ≠ 10 → x.1 k = z.1 k) ∧ (∀ k, ¬ (base ≤ k ∧ k < base + (i - fr)) → bp k = BPL (zV z) (z.2 6) id k) ∧ (∀ k, base ≤ k → k < base + (i - fr) → (bp k = 0 ↔ BPL (zV z) (z.2 6) id k = 0) ∧ (BPL (zV z) (z.2 6) id k ≠ 0 → zV x (bp k) = zV z (BPL (zV z) (z.2 6) id k)) ∧ ¬ vic z (bp k) ∧ (bp k = BPL (zV z) (z.2 6) id k ∨ (z.2 5 (bp k) = 0 ∧ vic z (BPL (zV z) (z.2 6) id k)))) ∧ (∀ j, j < 64 → x.2 20 j = if fr ≤ j ∧ j < i then zV z (z.2 6 n) j / 4096 * 4096 + bp (base + (j - fr)) else zV z (z.2 6 n) j) ∧ (∀ b, z.2 5 b ≠ 0 → x.2 9 b ≠ z.2 9 b → x.2 9 b = 0 ∧ vic z b) ∧ (∀ b, z.2 5 b = 0 → x.2 5 b ≠ 0 → x.2 9 b = 2 ∧ ¬ vic z b) ∧ (Uz x + mvc z id base (i - fr) = Uz z) ∧ (∀ s, x.2 12 s ≠ 0 → z.2 12 s ≠ 0) ∧ (z.2 19 (sg (x.1 9)) = 0) ∧ (un x = un z) ∧ (AVK z x) ∧ (∀ b, z.2 5 b = 0 → x.2 5 b ≠ 0 → sg b = sg (z.1 9) ∨ z.2 12 (sg b) ≠ 0) ∧ (sg (x.1 9) = sg (z.1 9) ∨ z.2 12 (sg (x.1 9)) ≠ 0)
theorem MVL.wk {z x : NSt} {R : TRE} {tk : TKS} {PP : Nat → Nat} {ch : List Nat} {n id base fr i : Nat} {bp : Nat → Nat} (h9 : MVL z x R tk PP ch n id base fr i bp) : WK x (va_up (BPL (zV z) (z.2 6)) id bp) R tk PP ch := h9.1
theorem MVL.kw {z x : NSt} {R : TRE} {tk : TKS} {PP : Nat → Nat} {ch : List Nat} {n id base fr i : Nat} {bp : Nat → Nat} (h9 : MVL z x R tk PP ch n id base fr i bp) : KW z x := h9.2.1
theorem MVL.ar {z x : NSt} {R : TRE} {tk : TKS} {PP : Nat → Nat} {ch : List Nat} {n id base fr i : Nat} {bp : Nat → Nat} (h9 : MVL z x R tk PP ch n id base fr i bp) : ∀ c, c ≠ 4 → c ≠ 5 → c ≠ 9 → c ≠ 10 → c ≠ 11 → c ≠ 12 → c ≠ 20 → c ≠ 21 → x.2 c = z.2 c := h9.2.2.1
theorem MVL.sc {z x : NSt} {R : TRE} {tk : TKS} {PP : Nat → Nat} {ch : List Nat} {n id base fr i : Nat} {bp : Nat → Nat} (h9 : MVL z x R tk PP ch n id base fr i bp) : ∀ k, k ≠ 7 → k ≠ 9 → k ≠ 10 → x.1 k = z.1 k := h9.2.2.2.1
theorem MVL.b0 {z x : NSt} {R : TRE} {tk : TKS} {PP : Nat → Nat} {ch : List Nat} {n id base fr i : Nat} {bp : Nat → Nat} (h9 : MVL z x R tk PP ch n id base fr i bp) : ∀ k, ¬ (base ≤ k ∧ k < base + (i - fr)) → bp k = BPL (zV z) (z.2 6) id k := h9.2.2.2.2.1
theorem MVL.b1 {z x : NSt} {R : TRE} {tk : TKS} {PP : Nat → Nat} {ch : List Nat} {n id base fr i : Nat} {bp : Nat → Nat} (h9 : MVL z x R tk PP ch n id base fr i bp) : ∀ k, base ≤ k → k < base + (i - fr) → (bp k = 0 ↔ BPL (zV z) (z.2 6) id k = 0) ∧ (BPL (zV z) (z.2 6) id k ≠ 0 → zV x (bp k) = zV z (BPL (zV z) (z.2 6) id k)) ∧ ¬ vic z (bp k) ∧ (bp k = BPL (zV z) (z.2 6) id k ∨ (z.2 5 (bp k) = 0 ∧ vic z (BPL (zV z) (z.2 6) id k))) := h9.2.2.2.2.2.1
theorem MVL.nd {z x : NSt} {R : TRE} {tk : TKS} {PP : Nat → Nat} {ch : List Nat} {n id base fr i : Nat} {bp : Nat → Nat} (h9 : MVL z x R tk PP ch n id base fr i bp) : ∀ j, j < 64 → x.2 20 j = if fr ≤ j ∧ j < i then zV z (z.2 6 n) j / 4096 * 4096 + bp (base + (j - fr)) else zV z (z.2 6 n) j := h9.2.2.2.2.2.2.1
theorem MVL.u0 {z x : NSt} {R : TRE} {tk : TKS} {PP : Nat → Nat} {ch : List Nat} {n id base fr i : Nat} {bp : Nat → Nat} (h9 : MVL z x R tk PP ch n id base fr i bp) : ∀ b, z.2 5 b ≠ 0 → x.2 9 b ≠ z.2 9 b → x.2 9 b = 0 ∧ vic z b := h9.2.2.2.2.2.2.2.1
theorem MVL.u1 {z x : NSt} {R : TRE} {tk : TKS} {PP : Nat → Nat} {ch : List Nat} {n id base fr i : Nat} {bp : Nat → Nat} (h9 : MVL z x R tk PP ch n id base fr i bp) : ∀ b, z.2 5 b = 0 → x.2 5 b ≠ 0 → x.2 9 b = 2 ∧ ¬ vic z b := h9.2.2.2.2.2.2.2.2.1
theorem MVL.uz {z x : NSt} {R : TRE} {tk : TKS} {PP : Nat → Nat} {ch : List Nat} {n id base fr i : Nat} {bp : Nat → Nat} (h9 : MVL z x R tk PP ch n id base fr i bp) : Uz x + mvc z id base (i - fr) = Uz z := h9.2.2.2.2.2.2.2.2.2.1
theorem MVL.fz {z x : NSt} {R : TRE} {tk : TKS} {PP : Nat → Nat} {ch : List Nat} {n id base fr i : Nat} {bp : Nat → Nat} (h9 : MVL z x R tk PP ch n id base fr i bp) : ∀ s, x.2 12 s ≠ 0 → z.2 12 s ≠ 0 := h9.2.2.2.2.2.2.2.2.2.2.1
theorem MVL.en {z x : NSt} {R : TRE} {tk : TKS} {PP : Nat → Nat} {ch : List Nat} {n id base fr i : Nat} {bp : Nat → Nat} (h9 : MVL z x R tk PP ch n id base fr i bp) : z.2 19 (sg (x.1 9)) = 0 := h9.2.2.2.2.2.2.2.2.2.2.2.1
theorem MVL.un' {z x : NSt} {R : TRE} {tk : TKS} {PP : Nat → Nat} {ch : List Nat} {n id base fr i : Nat} {bp : Nat → Nat} (h9 : MVL z x R tk PP ch n id base fr i bp) : un x = un z := h9.2.2.2.2.2.2.2.2.2.2.2.2.1
theorem MVL.av {z x : NSt} {R : TRE} {tk : TKS} {PP : Nat → Nat} {ch : List Nat} {n id base fr i : Nat} {bp : Nat → Nat} (h9 : MVL z x R tk PP ch n id base fr i bp) : AVK z x := h9.2.2.2.2.2.2.2.2.2.2.2.2.2.1
theorem MVL.w2 {z x : NSt} {R : TRE} {tk : TKS} {PP : Nat → Nat} {ch : List Nat} {n id base fr i : Nat} {bp : Nat → Nat} (h9 : MVL z x R tk PP ch n id base fr i bp) : ∀ b, z.2 5 b = 0 → x.2 5 b ≠ 0 → sg b = sg (z.1 9) ∨ z.2 12 (sg b) ≠ 0 := h9.2.2.2.2.2.2.2.2.2.2.2.2.2.2.1
theorem MVL.es {z x : NSt} {R : TRE} {tk : TKS} {PP : Nat → Nat} {ch : List Nat} {n id base fr i : Nat} {bp : Nat → Nat} (h9 : MVL z x R tk PP ch n id base fr i bp) : sg (x.1 9) = sg (z.1 9) ∨ z.2 12 (sg (x.1 9)) ≠ 0 := h9.2.2.2.2.2.2.2.2.2.2.2.2.2.2.2
theorem mvc_s (z : NSt) (id base m : Nat) : mvc z id base (m + 1) = mvc z id base m + if vic z (BPL (zV z) (z.2 6) id (base + m)) then 1 else 0 := rfl
theorem moveLoop {FU : Nat} (hF : 140000 < FU) {z : NSt} {T R : TRE} {tk : TKS} {PP : Nat → Nat} {ch : List Nat} {n id base fr hi : Nat} (h0 : NW z T R tk PP ch) (hv1 : ∀ s, s < 128 → z.2 19 s ≤ 1) (hvf : ∀ s, z.2 12 s ≠ 0 → z.2 19 s = 0) (hh : hi ≤ 56) (hfr : fr ≤ hi) (hp : ∀ i, fr ≤ i → i < hi → BPL (zV z) (z.2 6) id (base + (i - fr)) = zV z (z.2 6 n) i % 4096) (hU : 32 + mvc z id base (hi - fr) ≤ Uz z) (Q : St → Prop) (fl0 : Nat)
    (hq : ∀ x bp fl, MVL z x R tk PP ch n id base fr hi bp → fl = (if fl0 = 1 ∨ 0 < mvc z id base (hi - fr) then 1 else 0) → Ev (if nI fl = 0 then some (up x) else (Log_putNode FU 20 (nI n) (0 : Int32) (up x)).bind fun p1 => some p1) Q) :
    ∀ (m i q : Nat) (x : NSt) (bp : Nat → Nat) (fl : Nat), i + m = hi → m < q → fr ≤ i → MVL z x R tk PP ch n id base fr i bp → fl = (if fl0 = 1 ∨ 0 < mvc z id base (i - fr) then 1 else 0) → Ev (Cle_moveNode_b74 FU q (nI n) (nI fl) (nI hi) (nI i) (up x)) Q := by
  intro m
  induction m with
  | zero =>
    intro i q x bp fl e1 e2 e3 h hfl
    obtain ⟨q, rfl⟩ : ∃ q9, q = q9 + 1 := ⟨q - 1, by omega⟩
    have e1 : i = hi := e1
    subst e1
    unfold Cle_moveNode_b74
    rw [if_pos (nI_le (Nat.le_refl _) (by omega))]
    exact hq x bp fl h hfl
  | succ m ih =>
    intro i q x bp fl e1 e2 e3 h hfl
    obtain ⟨q, rfl⟩ : ∃ q9, q = q9 + 1 := ⟨q - 1, by omega⟩
    have hw := h.wk
    have hb : bp (base + (i - fr)) = BPL (zV z) (z.2 6) id (base + (i - fr)) := h.b0 _ (by omega)
    have hpi := hp i e3 (by omega)
    obtain ⟨b, eb⟩ : ∃ b, b = BPL (zV z) (z.2 6) id (base + (i - fr)) := ⟨_, rfl⟩
    obtain ⟨w, ew⟩ : ∃ w, w = zV z (z.2 6 n) i := ⟨_, rfl⟩
    rw [← eb] at hb hpi
    rw [← ew] at hpi
    have hnd : x.2 20 i = w := by rw [h.nd i (by omega), if_neg (by omega), ew]
    have hw32 : w < 2 ^ 32 := by rw [ew]; exact zV_lt (h0.wk.wd 4 (by decide) (by decide)) _ _
    have hbb : b < 2117 := by
      by_cases c : b = 0
      · omega
      · have hr := h0.wk.tr.rb h0.wk.lg (n := id) (i := base + (i - fr)) (by rw [← eb]; exact c)
        rw [← eb] at hr
        exact hr.2.2.1
    have x19 : x.2 19 = z.2 19 := h.ar 19 (by decide) (by decide) (by decide) (by decide) (by decide) (by decide) (by decide) (by decide)
    have hvx : ∀ c, vic x c ↔ vic z c := fun c => by unfold vic; rw [x19]
    have hml : Cle_mustLeave FU (nI b) (up x) = some (nI (if vic z b then 1 else 0)) := by
      rw [mustLeave_z FU hbb (by rw [x19]; exact hv1)]
      by_cases c : vic z b
      · rw [if_pos c, if_pos ((hvx b).mpr c)]
      · rw [if_neg c, if_neg (fun v => c ((hvx b).mp v))]
    have hms := mvc_s z id base (i - fr)
    rw [← eb, show i - fr + 1 = i + 1 - fr by omega] at hms
    have hmle : mvc z id base (i + 1 - fr) ≤ mvc z id base (hi - fr) := by
      have : hi - fr = (i + 1 - fr) + m := by omega
      unfold mvc
      rw [this, sm_cut]
      exact Nat.le_add_right _ _
    unfold Cle_moveNode_b74
    rw [if_neg (nI_ge (by omega) (by omega)), rdA_z x 20 (by omega) (by decide), Option.bind_some, hnd, and4095 hw32, ← hpi, hml, Option.bind_some]
    by_cases c : vic z b
    · rw [if_pos c] at hms ⊢
      have hb0 : b ≠ 0 := fun v => by have := c.1; omega
      rw [if_neg (by decide), Dev_load_g FU x 21 hbb (by decide), Option.bind_some]
      have w1 := hw.load (a := 21) b (by decide)
      rw [Log_drop_g FU w1.lg (by omega), Option.bind_some]
      have w2 := w1.drop' (base + (i - fr))
      rw [hb] at w2
      have hud := (drop_LG w1.lg b).2
      obtain ⟨x2, ex2⟩ : ∃ x2, x2 = drpZ b (ldZ x 21 b) := ⟨_, rfl⟩
      rw [← ex2] at w2 hud ⊢
      have x2a : ∀ c, c ≠ 9 → c ≠ 10 → c ≠ 11 → c ≠ 21 → x2.2 c = x.2 c := fun c c9 c10 c11 c21 => by rw [ex2, drp_2 _ _ c9 c10 c11, ld_b c21]
      have x21 : x2.1 = x.1 := by rw [ex2, drp_1]; rfl
      have x2m : ∀ j, j < 64 → x2.2 21 j = zV x b j := fun j hj => by rw [ex2, drp_2 _ _ (by decide) (by decide) (by decide), ld_a hj, zV_W hj]
      have x29 : x2.2 9 = va_up (x.2 9) b 0 := by rw [ex2, drp_9 w1.lg, ld_b (by decide)]
      have u2 : Uz x2 = Uz x := by
        rw [hud]
        exact Uz_frame (fun k _ _ => rfl)
      have huz := h.uz
      rw [rdA_z x2 20 (by omega) (by decide), Option.bind_some, x2a 20 (by decide) (by decide) (by decide) (by decide), hnd]
      refine (putData_s (a := 21) (by omega) (by decide) (by decide) w2.lg (by omega)).bd ?_
      rintro _ ⟨x3, rfl, hl3, hpd⟩
      obtain ⟨q4, q5, q9, qn, qs, qu, qw0, qu0, q69, q70, q12, qsg, -⟩ := _root_.id hpd
      have w3 := w2.data (n := id) (i := base + (i - fr)) ⟨by decide, by decide⟩ hpd hl3 (by rw [va_up_self, va_up_self])
      rw [up_va2] at w3
      have hS := w2.lg.1.1.2.1
      obtain ⟨D, eD⟩ : ∃ D, D = x2.1 9 := ⟨_, rfl⟩
      have ebp : va_up (va_up bp (base + (i - fr)) 0) (base + (i - fr)) D = va_up bp (base + (i - fr)) D := by
        funext k
        unfold va_up
        split <;> rfl
      rw [← eD] at w3 q69 q70 qw0 qu0 ⊢
      rw [ebp] at w3
      rw [slot_mv hw32 (by omega), wrA_z x3 20 (by omega) (by decide), Option.bind_some]
      unfold Cle_moveNode_b157
      rw [nI_1, show (1 : Int32) = nI 1 from rfl]
      obtain ⟨y, ey⟩ : ∃ y, y = zA x3 20 i (w / 4096 * 4096 + D) := ⟨_, rfl⟩
      rw [← ey]
      have ya : ∀ c, c ≠ 20 → y.2 c = x3.2 c := fun c hc => by rw [ey, zA2, if_neg hc]
      have y1 : y.1 = x3.1 := by rw [ey]; rfl
      have wy : WK y (va_up (BPL (zV z) (z.2 6)) id (va_up bp (base + (i - fr)) D)) R tk PP ch := by rw [ey]; exact w3.setA (by decide) (by omega)
      have kx2 : KW x x2 := KW.of4 (x2a 4 (by decide) (by decide) (by decide) (by decide)) (x2a 5 (by decide) (by decide) (by decide) (by decide))
      have k23 : KW x2 x3 := hpd.kw
      have k3y : KW x3 y := KW.of4 (ya 4 (by decide)) (ya 5 (by decide))
      have kxy : KW x y := (kx2.trans k23).trans k3y
      have hVD : zV y D = zV z b := by
        rw [zV_congr (ya 4 (by decide)), hpd.V, if_pos eD]
        have hbw : z.2 5 b ≠ 0 := by
          have hr := h0.wk.tr.rb h0.wk.lg (n := id) (i := base + (i - fr)) (by rw [← eb]; exact hb0)
          rw [← eb] at hr
          rw [hr.2.2.2.2]; decide
        rw [← (h.kw.1 b hbw).2]
        funext j
        unfold cutW
        by_cases hj : j < 64
        · rw [if_pos hj, x2m j hj]
        · rw [if_neg hj]
          exact (if_neg hj).symm
      have hDx : x.2 5 D = 0 := by rw [← x2a 5 (by decide) (by decide) (by decide) (by decide)]; exact qw0
      have hDz : z.2 5 D = 0 := by
        refine Classical.byContradiction (fun v => ?_)
        exact (h.kw.1 D v).1 hDx
      have hDv : ¬ vic z D := by
        rintro ⟨-, v⟩
        rw [eD, x21] at v
        exact v h.en
      have hy9 : ∀ c, y.2 9 c = if c = D then 2 else if c = b then 0 else x.2 9 c := fun c => by
        rw [ya 9 (by decide), q9, x29, ← eD]
        rfl
      have hy5 : ∀ c, y.2 5 c = if c = D then 1 else x.2 5 c := fun c => by
        rw [ya 5 (by decide), q5, x2a 5 (by decide) (by decide) (by decide) (by decide), ← eD]
        rfl
      have hDb : D ≠ b := fun v => by
        have hr := h0.wk.tr.rb h0.wk.lg (n := id) (i := base + (i - fr)) (by rw [← eb]; exact hb0)
        rw [← eb, ← v] at hr
        omega
      refine ih (i + 1) q y (va_up bp (base + (i - fr)) D) 1 (by omega) (by omega) (by omega) ⟨wy, h.kw.trans kxy, fun c c4 c5 c9 c10 c11 c12 c20 c21 => ?_, fun k k7 k9 k10 => ?_, fun k hk => ?_, fun k k1 k2 => ?_, fun j hj => ?_, fun c c1 c2 => ?_, fun c c1 c2 => ?_, ?_, fun s hs => ?_, ?_, ?_, ?_, fun c c1 c2 => ?_, ?_⟩ ?_
      · rw [ya c c20, qn c c4 c5 c9 c11 c12, x2a c c9 c10 c11 c21, h.ar c c4 c5 c9 c10 c11 c12 c20 c21]
      · rw [y1, qs k k7 k9 k10, x21, h.sc k k7 k9 k10]
      · rw [va_up_ne _ _ (by omega)]
        exact h.b0 k (by omega)
      · by_cases d : k = base + (i - fr)
        · rw [d, va_up_self, ← eb]
          exact ⟨⟨fun v => by omega, fun v => absurd v hb0⟩, fun _ => hVD, hDv, Or.inr ⟨hDz, c⟩⟩
        · rw [va_up_ne _ _ d]
          obtain ⟨v1, v2, v3, v4⟩ := h.b1 k k1 (by omega)
          refine ⟨v1, fun v => ?_, v3, v4⟩
          rw [← v2 v]
          have hbk : bp k ≠ 0 := fun v' => v (v1.mp v')
          have hr := hw.tr.rb hw.lg (n := id) (i := k) (by rw [va_up_self]; exact hbk)
          rw [va_up_self] at hr
          exact (kxy.1 _ (by rw [hr.2.2.2.2]; decide)).2
      · rw [ey, zA2, if_pos rfl]
        unfold va_up
        by_cases d : j = i
        · rw [if_pos d, if_pos (by omega), d, ← ew, if_pos rfl]
        · rw [if_neg d, qn 20 (by decide) (by decide) (by decide) (by decide) (by decide), x2a 20 (by decide) (by decide) (by decide) (by decide), h.nd j hj]
          by_cases d2 : fr ≤ j ∧ j < i
          · rw [if_pos d2, if_pos (by omega), if_neg (by omega)]
          · rw [if_neg d2, if_neg (by omega)]
      · rw [hy9] at c2 ⊢
        by_cases d : c = D
        · rw [d, hDz] at c1; exact absurd rfl c1
        · rw [if_neg d] at c2 ⊢
          by_cases d2 : c = b
          · rw [if_pos d2, d2]
            exact ⟨rfl, ‹vic z b›⟩
          · rw [if_neg d2] at c2 ⊢
            exact h.u0 c c1 c2
      · rw [hy9]
        rw [hy5] at c2
        by_cases d : c = D
        · rw [if_pos d, d]
          exact ⟨rfl, hDv⟩
        · rw [if_neg d] at c2 ⊢
          have d2 : c ≠ b := fun v => by
            have hr := h0.wk.tr.rb h0.wk.lg (n := id) (i := base + (i - fr)) (by rw [← eb]; exact hb0)
            rw [← eb, ← v] at hr
            omega
          rw [if_neg d2]
          exact h.u1 c c1 c2
      · have : Uz y = Uz x3 := Uz_frame (fun k _ _ => by rw [y1])
        omega
      · rw [ya 12 (by decide)] at hs
        refine h.fz s ?_
        rw [← x2a 12 (by decide) (by decide) (by decide) (by decide)]
        exact q12 s hs
      · rw [y1]
        rcases qsg with v | v
        · rw [v, ← eD, eD, x21]; exact h.en
        · rw [x2a 12 (by decide) (by decide) (by decide) (by decide)] at v
          exact hvf _ (h.fz _ v)
      · have hbu : x.2 9 b ≠ 0 := by
          have hr := hw.tr.rb hw.lg (n := id) (i := base + (i - fr)) (by rw [va_up_self, hb]; exact hb0)
          rw [va_up_self, hb] at hr
          omega
        have s1 := un_up (z := x) (y := x2) (v := 0) hbb x29
        have s2 := un_up (z := x2) (y := x3) (v := 2) (b := D) (by omega) (by rw [eD]; exact q9)
        rw [if_neg hbu, if_pos rfl] at s1
        rw [qu0, if_pos rfl, if_neg (by decide)] at s2
        have s3 : un y = un x3 := un_congr (ya 9 (by decide))
        have s4 := h.un'
        omega
      · have k1 : AVK x x2 := AVK.same (x2a 12 (by decide) (by decide) (by decide) (by decide)) (by rw [x21]) (by rw [x21])
        have k3 : AVK x3 y := AVK.same (ya 12 (by decide)) (by rw [y1]) (by rw [y1])
        exact ((h.av.trans kx2 k1).trans k23 hpd.av).trans k3y k3
      · rw [hy5] at c2
        by_cases d : c = D
        · rw [d, eD, x21]; exact h.es
        · rw [if_neg d] at c2
          exact h.w2 c c1 c2
      · rw [y1]
        rcases qsg with v | v
        · rw [v, ← eD, eD, x21]; exact h.es
        · rw [x2a 12 (by decide) (by decide) (by decide) (by decide)] at v
          exact Or.inr (h.fz _ v)
      · rw [hms, if_pos (Or.inr (by omega))]
    · rw [if_neg c] at hms ⊢
      rw [if_pos i00]
      unfold Cle_moveNode_b157
      rw [nI_1]
      refine ih (i + 1) q x bp fl (by omega) (by omega) (by omega) ⟨hw, h.kw, h.ar, h.sc, fun k hk => h.b0 k (by omega), fun k k1 k2 => ?_, fun j hj => ?_, h.u0, h.u1, by rw [hms]; exact h.uz, h.fz, h.en, h.un', h.av, h.w2, h.es⟩ (by rw [hms]; exact hfl)
      · by_cases d : k = base + (i - fr)
        · rw [d, hb, ← eb]
          refine ⟨Iff.rfl, fun v => ?_, c, Or.inl rfl⟩
          have hr := h0.wk.tr.rb h0.wk.lg (n := id) (i := base + (i - fr)) (by rw [← eb]; exact v)
          rw [← eb] at hr
          exact (h.kw.1 _ (by rw [hr.2.2.2.2]; decide)).2
        · exact h.b1 k k1 (by omega)
      · rw [h.nd j hj]
        by_cases d : fr ≤ j ∧ j < i
        · rw [if_pos d, if_pos (by omega)]
        · rw [if_neg d]
          by_cases d2 : j = i
          · rw [if_pos (by omega), d2, hb, ← ew, hpi]
            omega
          · rw [if_neg (by omega)]
