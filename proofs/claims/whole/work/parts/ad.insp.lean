/-! the inspector: what it reads and counts -/
def IS (y z : NSt) : Prop := (∀ a, a ≠ 24 → a ≠ 25 → a ≠ 26 → y.2 a = z.2 a) ∧ (∀ k, k ≠ 20 → y.1 k = z.1 k) ∧ (y.1 20 = 0) ∧ (WD y)
theorem IS.ar {y z : NSt} (h9 : IS y z) : ∀ a, a ≠ 24 → a ≠ 25 → a ≠ 26 → y.2 a = z.2 a := h9.1
theorem IS.sc {y z : NSt} (h9 : IS y z) : ∀ k, k ≠ 20 → y.1 k = z.1 k := h9.2.1
theorem IS.f0 {y z : NSt} (h9 : IS y z) : y.1 20 = 0 := h9.2.2.1
theorem IS.wd {y z : NSt} (h9 : IS y z) : WD y := h9.2.2.2
def OWN (y z : NSt) (Cl : Nat → Prop) : Prop := ∀ b, b < 2117 → (Cl b → y.2 24 b = z.2 9 b) ∧ (¬ Cl b → y.2 24 b = 0)
def LDC (y : NSt) (f : Nat → Nat) : Prop := ∀ x, 1 ≤ x → x < 2048 → y.2 25 x = f x
def IV (y z : NSt) (Cl : Nat → Prop) (f : Nat → Nat) : Prop := (IS y z) ∧ (OWN y z Cl) ∧ (LDC y f)
theorem IV.is {y z : NSt} {Cl : Nat → Prop} {f : Nat → Nat} (h9 : IV y z Cl f) : IS y z := h9.1
theorem IV.ow {y z : NSt} {Cl : Nat → Prop} {f : Nat → Nat} (h9 : IV y z Cl f) : OWN y z Cl := h9.2.1
theorem IV.ld {y z : NSt} {Cl : Nat → Prop} {f : Nat → Nat} (h9 : IV y z Cl f) : LDC y f := h9.2.2
theorem IV.wk {y z : NSt} {Cl Cl' : Nat → Prop} {f f' : Nat → Nat} (h : IV y z Cl f) (h1 : ∀ b, b < 2117 → (Cl' b ↔ Cl b)) (h2 : ∀ x, 1 ≤ x → x < 2048 → f' x = f x) : IV y z Cl' f' :=
  ⟨h.is, fun b hb => ⟨fun q => (h.ow b hb).1 ((h1 b hb).mp q), fun q => (h.ow b hb).2 (fun w => q ((h1 b hb).mpr w))⟩, fun x x1 x2 => by rw [h2 x x1 x2]; exact h.ld x x1 x2⟩
theorem IS.word {y z : NSt} (h : IS y z) (FU : Nat) {b i : Nat} (hb : b < 2117) (hi : i < 64) : Dev_word FU (nI b) (nI i) (up y) = some (nI (zV z b i)) := by
  rw [Dev_word_e FU y hb hi, zV_W hi]
  unfold zW
  rw [h.ar 4 (by decide) (by decide) (by decide)]
theorem IS.pl {y z : NSt} {T R : TRE} {tk : TKS} {PP : Nat → Nat} {ch : List Nat} (h : IS y z) (hN : NW z T R tk PP ch) (FU : Nat) {n : Nat} (hn : n < 2 ^ 31) : Tab_placeOf FU (nI n) (up y) = some (nI (z.2 6 n)) := by
  rw [Tab_placeOf_z FU y hn]
  refine congrArg some (congrArg nI ?_)
  unfold plZ
  rw [h.ar 6 (by decide) (by decide) (by decide)]
  by_cases c : 1 ≤ n ∧ n < 2048
  · rw [if_pos c]
  · rw [if_neg c]
    refine (Classical.byContradiction (fun q => ?_))
    have := hN.wk.nu n (Ne.symm q)
    omega
theorem exp1 (FU : Nat) (g : St) : Ins_expect FU (1 : Int32) g = some g := by
  unfold Ins_expect
  rw [if_neg (by decide)]
theorem segOf_z (FU : Nat) (g : St) {p : Nat} (h1 : 69 ≤ p) (h2 : p < 2117) : FF_segmentOf FU (nI p) g = some (nI ((p - 69) / 16)) := by
  unfold FF_segmentOf
  simp (disch := omega) only [lit_nI, nI_ltI, nI_leI, nI_eq, nI_add, pk_sub, pk_div, nI_64, rdA_z, wrA_z, cpy_z, up1, up_I, nz_n0, nz_n1, zI1, zI2, zR1, zR2, zA1, zA2, Option.bind_some, nx_eq, if_true, if_false, if_pos, if_neg]
theorem IS.r24 {y z : NSt} (h : IS y z) {p v : Nat} (hv : v < 2 ^ 32) : IS (zA y 24 p v) z := by
  refine ⟨fun a a1 a2 a3 => by rw [zA2, if_neg a1]; exact h.ar a a1 a2 a3, h.sc, h.f0, fun a a1 a2 i => ?_⟩
  rw [zA2]
  by_cases c : a = 24
  · rw [if_pos c]
    unfold va_up
    split
    · exact hv
    · exact h.wd 24 (by decide) (by decide) i
  · rw [if_neg c]; exact h.wd a a1 a2 i
theorem IS.r25 {y z : NSt} (h : IS y z) {p v : Nat} (hv : v < 2 ^ 32) : IS (zA y 25 p v) z := by
  refine ⟨fun a a1 a2 a3 => by rw [zA2, if_neg a2]; exact h.ar a a1 a2 a3, h.sc, h.f0, fun a a1 a2 i => ?_⟩
  rw [zA2]
  by_cases c : a = 25
  · rw [if_pos c]
    unfold va_up
    split
    · exact hv
    · exact h.wd 25 (by decide) (by decide) i
  · rw [if_neg c]; exact h.wd a a1 a2 i
theorem own_s (FU : Nat) {y z : NSt} {Cl : Nat → Prop} {f : Nat → Nat} (h : IV y z Cl f) {p k : Nat} (h1 : 69 ≤ p) (h2 : p < 2117) (hw : z.2 5 p = 1) (hk : z.2 9 p = k) (hk2 : k ≤ 2) (hn : ¬ Cl p) :
    Ev (Ins_own FU (nI p) (nI k) (up y)) fun r => ∃ x, r = up x ∧ IV x z (fun b => Cl b ∨ b = p) f := by
  unfold Ins_own
  rw [segOf_z FU _ h1 h2, Option.bind_some, if_neg (show ¬ nI ((p - 69) / 16) < (0 : Int32) from fun w => by
    rw [show (0 : Int32) = nI 0 from rfl, nI_ltI (by omega) (by decide)] at w
    omega), Dev_isWritten_e FU y h2, Option.bind_some, h.is.ar 5 (by decide) (by decide) (by decide), hw, if_neg (show ¬ nI 1 = nI 0 by decide), if_neg (show ¬ nI 1 = (0 : Int32) by decide)]
  unfold Ins_own_b24
  rw [exp1, Option.bind_some, segOf_z FU _ h1 h2, Option.bind_some, if_neg (show ¬ nI ((p - 69) / 16) < (0 : Int32) from fun w => by
    rw [show (0 : Int32) = nI 0 from rfl, nI_ltI (by omega) (by decide)] at w
    omega), rdA_z y 24 h2 (by decide), Option.bind_some, (h.ow p h2).2 hn, if_pos i00]
  unfold Ins_own_b49
  rw [exp1, Option.bind_some, wrA_z y 24 h2 (by decide), Option.bind_some]
  refine Ev.ret ⟨_, rfl, h.is.r24 (by omega), fun b hb => ?_, fun x x1 x2 => ?_⟩
  · rw [zA2, if_pos rfl]
    by_cases c : b = p
    · rw [c, va_up_self]
      exact ⟨fun _ => hk.symm, fun q => absurd (Or.inr rfl) q⟩
    · rw [va_up_ne _ _ c]
      exact ⟨fun q => (h.ow b hb).1 (q.elim id (fun w => absurd w c)), fun q => (h.ow b hb).2 (fun w => q (Or.inl w))⟩
  · rw [zA2, if_neg (by decide)]
    exact h.ld x x1 x2
theorem and2047 {w : Nat} (h : w < 2 ^ 32) : nI w &&& (2047 : Int32) = nI (w % 2048) := pk_andN h 11 (by decide)
theorem lead_s (FU : Nat) {y z : NSt} {T R : TRE} {tk : TKS} {PP : Nat → Nat} {ch : List Nat} (hN : NW z T R tk PP ch) {Cl : Nat → Prop} {f : Nat → Nat} (h : IV y z Cl f) {x : Nat} (hx : x = 0 ∨ (1 ≤ x ∧ x < 2048 ∧ z.2 6 x ≠ 0)) (hb : f x ≤ 200000) :
    Ev (Ins_lead FU (nI x) (up y)) fun r => ∃ w, r = up w ∧ IV w z Cl (fun t => f t + if x = t then 1 else 0) ∧ w.2 26 = y.2 26 := by
  unfold Ins_lead
  rcases hx with c | ⟨x1, x2, x3⟩
  · rw [if_pos (show nI x = (0 : Int32) by rw [c]; rfl)]
    exact Ev.ret ⟨y, rfl, h.wk (fun b _ => Iff.rfl) (fun t t1 _ => by rw [if_neg (by omega)]; rfl), rfl⟩
  · have hp32 := hN.wk.wd 6 (by decide) (by decide) x
    rw [if_neg (ne0_I (by omega) (by omega)), if_neg (show ¬ nI x ≤ (0 : Int32) from fun w => by
      rw [show (0 : Int32) = nI 0 from rfl, nI_leI (by omega) (by decide)] at w
      omega), if_neg (show ¬ (2048 : Int32) ≤ nI x from fun w => by
      rw [show (2048 : Int32) = nI 2048 from rfl, nI_leI (by decide) (by omega)] at w
      omega), h.is.pl hN FU (by omega), Option.bind_some, if_neg (ne0_I hp32 x3)]
    unfold Ins_lead_b32
    rw [exp1, Option.bind_some, and2047 (by omega), Nat.mod_eq_of_lt x2, rdA_z y 25 x2 (by decide), Option.bind_some, h.ld x x1 x2, nI_1, wrA_z y 25 x2 (by decide), Option.bind_some]
    refine Ev.ret ⟨_, rfl, ⟨h.is.r25 (by omega), fun b hb => ?_, fun t t1 t2 => ?_⟩, by rw [zA2, if_neg (by decide)]⟩
    · rw [zA2, if_neg (by decide)]
      exact h.ow b hb
    · rw [zA2, if_pos rfl]
      show _ = f t + (if x = t then 1 else 0)
      by_cases c : t = x
      · rw [c, va_up_self, if_pos rfl]
      · rw [va_up_ne _ _ c, if_neg (Ne.symm c)]
        exact h.ld t t1 t2
theorem sm1b {p : Nat → Prop} [DecidablePred p] (n : Nat) : sm (fun i => if p i then 1 else 0) n ≤ n := by
  have := sm_bnd (f := fun i => if p i then 1 else 0) (n := n) (c := 1) (fun i _ => by split <;> omega)
  omega
/-- an indirect node -/
theorem indir_b (FU : Nat) {z : NSt} {T R : TRE} {tk : TKS} {PP : Nat → Nat} {ch : List Nat} (hN : NW z T R tk PP ch) {Cl : Nat → Prop} {f : Nat → Nat} {p id : Nat} (hp : p < 2117) (hf : ∀ t, f t ≤ 150000) (hj : ∀ j, j < 56 → zV z p j = 0 ∨ (1 ≤ zV z p j ∧ zV z p j < 2048 ∧ z.2 6 (zV z p j) ≠ 0 ∧ zV z (z.2 6 (zV z p j)) 61 = id)) : ∀ (m i n : Nat) (y : NSt), i + m = 56 → m < n → IV y z Cl (fun t => f t + sm (fun j => if zV z p j = t then 1 else 0) i) →
    Ev (Ins_inspectIndirect_b2 FU n (nI p) (nI id) (nI i) (up y)) fun r => ∃ w, r = up w ∧ IV w z Cl (fun t => f t + sm (fun j => if zV z p j = t then 1 else 0) 56) := by
  intro m
  induction m with
  | zero =>
    intro i n y h1 h2 h
    obtain ⟨n, rfl⟩ : ∃ q9, n = q9 + 1 := ⟨n - 1, by omega⟩
    have h1 : i = 56 := h1
    subst h1
    unfold Ins_inspectIndirect_b2
    rw [if_pos (show (56 : Int32) ≤ nI 56 by decide)]
    exact Ev.ret ⟨y, rfl, h⟩
  | succ m ih =>
    intro i n y h1 h2 h
    obtain ⟨n, rfl⟩ : ∃ q9, n = q9 + 1 := ⟨n - 1, by omega⟩
    unfold Ins_inspectIndirect_b2 Ins_inspectIndirect_b53 Ins_inspectIndirect_b58
    have w32 := zV32 hN p i
    rw [if_neg (show ¬ (56 : Int32) ≤ nI i from fun w => by
      rw [show (56 : Int32) = nI 56 from rfl, nI_leI (by decide) (by omega)] at w
      omega), h.is.word FU hp (by omega), Option.bind_some]
    have hbb := sm1b (p := fun j => zV z p j = zV z p i) i
    have hff := hf (zV z p i)
    refine (lead_s FU hN h (x := zV z p i) ((hj i (by omega)).elim Or.inl (fun w => Or.inr ⟨w.1, w.2.1, w.2.2.1⟩)) (by omega)).bd ?_
    rintro _ ⟨w, rfl, hw, -⟩
    have hw : IV w z Cl (fun t => f t + sm (fun j => if zV z p j = t then 1 else 0) (i + 1)) := hw.wk (fun b _ => Iff.rfl) (fun t _ _ => (Nat.add_assoc _ _ _).symm)
    rcases hj i (by omega) with c | ⟨c1, c2, c3, c4⟩
    · rw [if_pos (show nI (zV z p i) = (0 : Int32) by rw [c]; rfl), exp1, Option.bind_some, nI_1]
      exact ih (i + 1) n w (by omega) (by omega) hw
    · have hpb := hN.wk.pb (zV z p i)
      rw [if_neg (ne0_I w32 (by omega)), hw.is.pl hN FU (by omega), Option.bind_some, show (61 : Int32) = nI 61 from rfl, hw.is.word FU hpb (by decide), Option.bind_some, c4, if_pos rfl, exp1, Option.bind_some, nI_1]
      exact ih (i + 1) n w (by omega) (by omega) hw
/-- a directory -/
def ldD (z : NSt) (p j : Nat) : Nat := if zV z p (6 + j) = 0 then 0 else zV z (zV z p (6 + j) % 4096) 0
theorem IS.ld26 {y z : NSt} (h : IS y z) (b : Nat) : IS (ldZ y 26 b) z := by
  refine ⟨fun a a1 a2 a3 => by rw [ld_b a3]; exact h.ar a a1 a2 a3, h.sc, h.f0, fun a a1 a2 i => ?_⟩
  by_cases c : a = 26
  · rw [c]
    unfold ldZ
    rw [zR2, if_pos rfl]
    unfold va_cpy
    split
    · exact h.wd 4 (by decide) (by decide) _
    · exact h.wd 26 (by decide) (by decide) _
  · rw [ld_b c]; exact h.wd a a1 a2 i
theorem IV.ld26 {y z : NSt} {Cl : Nat → Prop} {f : Nat → Nat} (h : IV y z Cl f) (b : Nat) : IV (ldZ y 26 b) z Cl f :=
  ⟨h.is.ld26 b, fun c hc => by rw [ld_b (by decide)]; exact h.ow c hc, fun x x1 x2 => by rw [ld_b (by decide)]; exact h.ld x x1 x2⟩
theorem indir_d {FU : Nat} (hF : 140000 < FU) {z : NSt} {T R : TRE} {tk : TKS} {PP : Nat → Nat} {ch : List Nat} (hN : NW z T R tk PP ch) (hT : TWF T) {Cl : Nat → Prop} {f : Nat → Nat} {d : Nat} (hd : T.kd d = 2) (hf : ∀ t, f t ≤ 150000) : ∀ (m i n : Nat) (y : NSt), i + m = 48 → m < n → IV y z Cl (fun t => f t + sm (fun j => if ldD z (z.2 6 d) j = t then 1 else 0) i) →
    Ev (Ins_inspectDirectory_b5 FU n (nI d) (nI (z.2 6 d)) (nI (sm (fun s => if zV z (z.2 6 d) (6 + s) = 0 then 0 else 1) i)) (nI i) (up y)) fun r => ∃ w, r = up w ∧ IV w z Cl (fun t => f t + sm (fun j => if ldD z (z.2 6 d) j = t then 1 else 0) 48) := by
  obtain ⟨g1, g2, -⟩ := hN.tok.rng d (by omega)
  have hi := hN.tok.ids d g1 g2
  have hD := (hi.dir hd).1
  have hp := hN.wk.pb d
  intro m
  induction m with
  | zero =>
    intro i n y h1 h2 h
    obtain ⟨n, rfl⟩ : ∃ q9, n = q9 + 1 := ⟨n - 1, by omega⟩
    have h1 : i = 48 := h1
    subst h1
    unfold Ins_inspectDirectory_b5 Ins_inspectDirectory_b187
    rw [if_pos (show (48 : Int32) ≤ nI 48 by decide), show (1 : Int32) = nI 1 from rfl, h.is.word FU hp (by decide), Option.bind_some, hD.siz, if_pos rfl, show nI 1 = (1 : Int32) from rfl, exp1, Option.bind_some]
    exact Ev.ret ⟨y, rfl, h⟩
  | succ m ih =>
    intro i n y h1 h2 h
    obtain ⟨n, rfl⟩ : ∃ q9, n = q9 + 1 := ⟨n - 1, by omega⟩
    unfold Ins_inspectDirectory_b5
    have w32 := zV32 hN (z.2 6 d) (6 + i)
    rw [if_neg (show ¬ (48 : Int32) ≤ nI i from fun w => by
      rw [show (48 : Int32) = nI 48 from rfl, nI_leI (by decide) (by omega)] at w
      omega), show (6 : Int32) + nI i = nI (6 + i) from nI_add 6 i, h.is.word FU hp (by omega), Option.bind_some]
    by_cases c0 : zV z (z.2 6 d) (6 + i) = 0
    · unfold Ins_inspectDirectory_b162
      rw [if_pos (show nI (zV z (z.2 6 d) (6 + i)) = (0 : Int32) by rw [c0]; rfl), nI_1]
      have := ih (i + 1) n y (by omega) (by omega) (h.wk (fun b _ => Iff.rfl) (fun t t1 _ => by
        show f t + (sm (fun j => if ldD z (z.2 6 d) j = t then 1 else 0) i + (if ldD z (z.2 6 d) i = t then 1 else 0)) = _
        unfold ldD
        rw [if_pos c0, if_neg (by omega)]
        rfl))
      have e : sm (fun s => if zV z (z.2 6 d) (6 + s) = 0 then 0 else 1) (i + 1) = sm (fun s => if zV z (z.2 6 d) (6 + s) = 0 then 0 else 1) i := by
        show _ + (if zV z (z.2 6 d) (6 + i) = 0 then 0 else 1) = _
        rw [if_pos c0, Nat.add_zero]
      rw [e] at this
      exact this
    · obtain ⟨a1, a2, a3, a4, a5, a6⟩ := hD.slot i (by omega) c0
      have hpl := slot_lt hN hd (by omega) c0
      obtain ⟨b, eb⟩ : ∃ b, b = zV z (z.2 6 d) (6 + i) % 4096 := ⟨_, rfl⟩
      rw [if_neg (ne0_I w32 c0), and4095 w32, ← eb] 
      rw [← eb] at a1 a2 a3 a4 a5 a6 hpl
      rw [Dev_load_e FU y 26 hpl (by decide), Option.bind_some]
      have exx : zR y 26 (va_cpy (y.2 4) (y.2 26) (64 * b) 0 64) = ldZ y 26 b := rfl
      rw [exx]
      have hx := h.ld26 b
      have x26 : ∀ j, j < 64 → (ldZ y 26 b).2 26 j = zV z b j := fun j hj => by
        rw [ld_a hj, zV_W hj]
        unfold zW
        rw [h.is.ar 4 (by decide) (by decide) (by decide)]
      obtain ⟨x, ex⟩ : ∃ x, x = ldZ y 26 b := ⟨_, rfl⟩
      rw [← ex] at hx x26 ⊢
      rw [show (0 : Int32) = nI 0 from rfl, rdA_z x 26 (by decide) (by decide), Option.bind_some, x26 0 (by decide)]
      obtain ⟨cc, ec⟩ : ∃ cc, cc = zV z b 0 := ⟨_, rfl⟩
      rw [← ec] at a3 a4 a5 ⊢
      have htg := hT.tg d (nmE (zV z) b) (by rw [a3]; exact a4)
      rw [a3] at htg
      obtain ⟨t1, t2, -⟩ := hN.tok.rng cc htg.1
      have hic := hN.tok.ids cc t1 t2
      have hpc0 : z.2 6 cc ≠ 0 := fun q => htg.1 (hic.pl.mp q)
      have hpc := hN.wk.pb cc
      rw [hx.is.pl hN FU (by omega), Option.bind_some]
      have hbb := sm1b (p := fun j => ldD z (z.2 6 d) j = cc) i
      have hff := hf cc
      refine (lead_s FU hN hx (x := cc) (Or.inr ⟨t1, by omega, hpc0⟩) (by omega)).bd ?_
      rintro _ ⟨w, rfl, hw, hw26⟩
      have eld : ldD z (z.2 6 d) i = cc := by
        unfold ldD
        rw [if_neg c0, ← eb, ec]
      have hw : IV w z Cl (fun t => f t + sm (fun j => if ldD z (z.2 6 d) j = t then 1 else 0) (i + 1)) := hw.wk (fun b _ => Iff.rfl) (fun t _ _ => by
        show f t + (sm (fun j => if ldD z (z.2 6 d) j = t then 1 else 0) i + (if ldD z (z.2 6 d) i = t then 1 else 0)) = _
        rw [eld]
        exact (Nat.add_assoc _ _ _).symm)
      have w26 : ∀ j, j < 64 → w.2 26 j = zV z b j := fun j hj => by
        rw [hw26]; exact x26 j hj
      rw [if_neg (show ¬ nI cc ≤ (1 : Int32) from fun v => by
        rw [show (1 : Int32) = nI 1 from rfl, nI_leI (by omega) (by decide)] at v
        have := htg.2
        omega), if_neg (show ¬ (250 : Int32) < nI cc from fun v => by
        rw [show (250 : Int32) = nI 250 from rfl, nI_ltI (by decide) (by omega)] at v
        omega)]
      unfold Ins_inspectDirectory_b97
      rw [exp1, Option.bind_some, show (2 : Int32) = nI 2 from rfl, hashOf_z (by omega) w 26 (by decide), Option.bind_some, ush12 w32, hashN_congr (g := fun i => zV z b (2 + i)) (fun j hj => w26 _ (by omega)), a2, if_pos rfl]
      unfold Ins_inspectDirectory_b122
      have e1 : sm (fun s => if zV z (z.2 6 d) (6 + s) = 0 then 0 else 1) (i + 1) = sm (fun s => if zV z (z.2 6 d) (6 + s) = 0 then 0 else 1) i + 1 := by
        show _ + (if zV z (z.2 6 d) (6 + i) = 0 then 0 else 1) = _
        rw [if_neg c0]
      have go := ih (i + 1) n w (by omega) (by omega) hw
      rw [e1] at go
      rw [exp1, Option.bind_some, show (0 : Int32) = nI 0 from rfl, hw.is.word FU hpc (by decide), Option.bind_some, (hic.kd htg.1).1]
      have fin : Ev (Ins_inspectDirectory_b154 FU (Ins_inspectDirectory_b5 FU n) (nI d) (nI (z.2 6 d)) (nI (sm (fun s => if zV z (z.2 6 d) (6 + s) = 0 then 0 else 1) i) + 1) (nI i) (up w)) fun r => ∃ w, r = up w ∧ IV w z Cl (fun t => f t + sm (fun j => if ldD z (z.2 6 d) j = t then 1 else 0) 48) := by
        unfold Ins_inspectDirectory_b154 Ins_inspectDirectory_b159 Ins_inspectDirectory_b162
        rw [exp1, Option.bind_some, nI_1, nI_1]
        exact go
      by_cases k2 : T.kd cc = 2
      · rw [if_pos (show nI (T.kd cc) = (2 : Int32) by rw [k2]; rfl), show (2 : Int32) = nI 2 from rfl, hw.is.word FU hpc (by decide), Option.bind_some, (hic.dir k2).2.1]
        have hpr := hT.pr d (nmE (zV z) b) (by rw [a3]; exact k2)
        rw [a3] at hpr
        rw [hpr, if_pos rfl]
        exact fin
      · have := hN.kle cc
        rw [if_neg (fun v : nI (T.kd cc) = (2 : Int32) => k2 ((eqN (by omega) (c := 2) (by decide)).mp v))]
        exact fin
