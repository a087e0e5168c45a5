/-! what holds while a call works -/
/-- the number of the pack, and the files that were brought to the log alone since then -/
def TKS : Type := Nat × (Nat → Bool)
def PKO (z : NSt) (tk : Nat) (PP : Nat → Nat) : Prop := (1 ≤ z.1 11) ∧ (zV z (pkB (z.1 11)) 0 = z.1 11) ∧ (zV z (pkB (z.1 11) + 33) 0 = z.1 11) ∧ (zV z (pkB (z.1 11)) 1 = tk) ∧ (∀ n, 1 ≤ n → n < 2048 → zV z (pkB (z.1 11) + 1 + n / 64) (n % 64) = PP n) ∧ (∀ s, s < z.1 6 → z.2 12 s ≠ 0 → (zV z (pkB (z.1 11)) (4 + s / 32)).testBit (s % 32) = true) ∧ (zV z (pkB (z.1 11 + 1) + 33) 0 = zV z (pkB (z.1 11 + 1)) 0 → zV z (pkB (z.1 11 + 1)) 0 < z.1 11) ∧ (zV z 0 0 = z.1 6 ∧ zV z 0 1 ≤ zV z 0 0 ∧ z.1 16 = 16 * (zV z 0 0 - zV z 0 1))
theorem PKO.ser {z : NSt} {tk : Nat} {PP : Nat → Nat} (h9 : PKO z tk PP) : 1 ≤ z.1 11 := h9.1
theorem PKO.h0 {z : NSt} {tk : Nat} {PP : Nat → Nat} (h9 : PKO z tk PP) : zV z (pkB (z.1 11)) 0 = z.1 11 := h9.2.1
theorem PKO.h1 {z : NSt} {tk : Nat} {PP : Nat → Nat} (h9 : PKO z tk PP) : zV z (pkB (z.1 11) + 33) 0 = z.1 11 := h9.2.2.1
theorem PKO.ht {z : NSt} {tk : Nat} {PP : Nat → Nat} (h9 : PKO z tk PP) : zV z (pkB (z.1 11)) 1 = tk := h9.2.2.2.1
theorem PKO.hp {z : NSt} {tk : Nat} {PP : Nat → Nat} (h9 : PKO z tk PP) : ∀ n, 1 ≤ n → n < 2048 → zV z (pkB (z.1 11) + 1 + n / 64) (n % 64) = PP n := h9.2.2.2.2.1
theorem PKO.hb {z : NSt} {tk : Nat} {PP : Nat → Nat} (h9 : PKO z tk PP) : ∀ s, s < z.1 6 → z.2 12 s ≠ 0 → (zV z (pkB (z.1 11)) (4 + s / 32)).testBit (s % 32) = true := h9.2.2.2.2.2.1
theorem PKO.ho {z : NSt} {tk : Nat} {PP : Nat → Nat} (h9 : PKO z tk PP) : zV z (pkB (z.1 11 + 1) + 33) 0 = zV z (pkB (z.1 11 + 1)) 0 → zV z (pkB (z.1 11 + 1)) 0 < z.1 11 := h9.2.2.2.2.2.2.1
theorem PKO.su {z : NSt} {tk : Nat} {PP : Nat → Nat} (h9 : PKO z tk PP) : zV z 0 0 = z.1 6 ∧ zV z 0 1 ≤ zV z 0 0 ∧ z.1 16 = 16 * (zV z 0 0 - zV z 0 1) := h9.2.2.2.2.2.2.2
def CHO (z : NSt) (PP : Nat → Nat) (ch : List Nat) : Prop := (chn (zV z) ch (zV z (pkB (z.1 11)) 2) (z.1 8)) ∧ (∀ b, b ∈ ch → z.2 5 b = 1 ∧ 69 ≤ b ∧ b < 69 + 16 * z.1 6 ∧ zV z b 62 = z.1 11 ∧ 1 ≤ zV z b 61 ∧ zV z b 61 ≤ 250 ∧ 1 ≤ zV z b 60 ∧ zV z b 60 < 2048 ∧ (zV z b 60 ≤ 250 → zV z b 61 = zV z b 60)) ∧ (ch.Nodup) ∧ (∀ b c, b ∈ ch → c ∈ ch → zV z b 60 = zV z c 60 → zV z b 61 = zV z c 61) ∧ (∀ b, b ∈ ch → PP (zV z b 60) ≠ 0 → zV z (PP (zV z b 60)) 61 = zV z b 61) ∧ (∀ n, PP n ≠ 0 → z.2 5 (PP n) = 1 ∧ 69 ≤ PP n ∧ PP n < 69 + 16 * z.1 6 ∧ 1 ≤ n ∧ n < 2048 ∧ zV z (PP n) 60 = n ∧ (n ≤ 250 → zV z (PP n) 61 = n)) ∧ (∀ n, z.2 6 n ≠ 0 → z.2 6 n = LE (zV z) PP ch n) ∧ (∀ n, 250 < n → n < 2048 → z.2 7 n = 0 → PP n = 0 ∧ ∀ b, b ∈ ch → zV z b 60 ≠ n) ∧ (∀ n, n ≤ 250 → (z.2 7 n = 0 ↔ PP n = 0))
theorem CHO.lk {z : NSt} {PP : Nat → Nat} {ch : List Nat} (h9 : CHO z PP ch) : chn (zV z) ch (zV z (pkB (z.1 11)) 2) (z.1 8) := h9.1
theorem CHO.el {z : NSt} {PP : Nat → Nat} {ch : List Nat} (h9 : CHO z PP ch) : ∀ b, b ∈ ch → z.2 5 b = 1 ∧ 69 ≤ b ∧ b < 69 + 16 * z.1 6 ∧ zV z b 62 = z.1 11 ∧ 1 ≤ zV z b 61 ∧ zV z b 61 ≤ 250 ∧ 1 ≤ zV z b 60 ∧ zV z b 60 < 2048 ∧ (zV z b 60 ≤ 250 → zV z b 61 = zV z b 60) := h9.2.1
theorem CHO.nd {z : NSt} {PP : Nat → Nat} {ch : List Nat} (h9 : CHO z PP ch) : ch.Nodup := h9.2.2.1
theorem CHO.ow {z : NSt} {PP : Nat → Nat} {ch : List Nat} (h9 : CHO z PP ch) : ∀ b c, b ∈ ch → c ∈ ch → zV z b 60 = zV z c 60 → zV z b 61 = zV z c 61 := h9.2.2.2.1
theorem CHO.op {z : NSt} {PP : Nat → Nat} {ch : List Nat} (h9 : CHO z PP ch) : ∀ b, b ∈ ch → PP (zV z b 60) ≠ 0 → zV z (PP (zV z b 60)) 61 = zV z b 61 := h9.2.2.2.2.1
theorem CHO.pw {z : NSt} {PP : Nat → Nat} {ch : List Nat} (h9 : CHO z PP ch) : ∀ n, PP n ≠ 0 → z.2 5 (PP n) = 1 ∧ 69 ≤ PP n ∧ PP n < 69 + 16 * z.1 6 ∧ 1 ≤ n ∧ n < 2048 ∧ zV z (PP n) 60 = n ∧ (n ≤ 250 → zV z (PP n) 61 = n) := h9.2.2.2.2.2.1
theorem CHO.le {z : NSt} {PP : Nat → Nat} {ch : List Nat} (h9 : CHO z PP ch) : ∀ n, z.2 6 n ≠ 0 → z.2 6 n = LE (zV z) PP ch n := h9.2.2.2.2.2.2.1
theorem CHO.kp {z : NSt} {PP : Nat → Nat} {ch : List Nat} (h9 : CHO z PP ch) : ∀ n, 250 < n → n < 2048 → z.2 7 n = 0 → PP n = 0 ∧ ∀ b, b ∈ ch → zV z b 60 ≠ n := h9.2.2.2.2.2.2.2.1
theorem CHO.ki {z : NSt} {PP : Nat → Nat} {ch : List Nat} (h9 : CHO z PP ch) : ∀ n, n ≤ 250 → (z.2 7 n = 0 ↔ PP n = 0) := h9.2.2.2.2.2.2.2.2
/-- the table as mounting will find it -/
def rP (z : NSt) (PP : Nat → Nat) (ch : List Nat) : Nat → Nat := fwd (zV z) PP ch
def REC (z : NSt) (BP : Nat → Nat → Nat) (PP : Nat → Nat) (ch : List Nat) (T : TRE) : Prop := (TOK (zV z) (rP z PP ch) T) ∧ (∀ id k id' k', BPL (zV z) (rP z PP ch) id k ≠ 0 → BPL (zV z) (rP z PP ch) id k = BPL (zV z) (rP z PP ch) id' k' → id = id' ∧ k = k') ∧ (∀ id k, BPL (zV z) (rP z PP ch) id k ≠ 0 → z.2 5 (BPL (zV z) (rP z PP ch) id k) = 1 ∧ 69 ≤ BPL (zV z) (rP z PP ch) id k ∧ BPL (zV z) (rP z PP ch) id k < 69 + 16 * z.1 6) ∧ (∀ id k, BPL (zV z) (rP z PP ch) id k ≠ 0 → z.2 9 (BPL (zV z) (rP z PP ch) id k) ≠ 0 → ∃ k', BP id k' = BPL (zV z) (rP z PP ch) id k) ∧ (∀ b, b ∈ ch ∨ (∃ n, PP n = b ∧ b ≠ 0) → z.2 9 b ≠ 2) ∧ (∀ b, b ∈ ch ∨ (∃ n, PP n = b ∧ b ≠ 0) → ∀ i k, BPL (zV z) (rP z PP ch) i k ≠ b) ∧ (∀ b, b ∈ ch ∨ (∃ n, PP n = b ∧ b ≠ 0) → sg b ≠ sg (z.1 9) ∧ ∀ d, z.2 9 d = 2 → sg d ≠ sg b) ∧ (∀ b, (b ∈ ch ∨ (∃ n, PP n = b ∧ b ≠ 0)) ∨ b = z.1 8 → ∀ i k, BPL (zV z) (rP z PP ch) i k ≠ 0 → sg (BPL (zV z) (rP z PP ch) i k) ≠ sg b)
theorem REC.tok {z : NSt} {BP : Nat → Nat → Nat} {PP : Nat → Nat} {ch : List Nat} {T : TRE} (h9 : REC z BP PP ch T) : TOK (zV z) (rP z PP ch) T := h9.1
theorem REC.inj {z : NSt} {BP : Nat → Nat → Nat} {PP : Nat → Nat} {ch : List Nat} {T : TRE} (h9 : REC z BP PP ch T) : ∀ id k id' k', BPL (zV z) (rP z PP ch) id k ≠ 0 → BPL (zV z) (rP z PP ch) id k = BPL (zV z) (rP z PP ch) id' k' → id = id' ∧ k = k' := h9.2.1
theorem REC.wr {z : NSt} {BP : Nat → Nat → Nat} {PP : Nat → Nat} {ch : List Nat} {T : TRE} (h9 : REC z BP PP ch T) : ∀ id k, BPL (zV z) (rP z PP ch) id k ≠ 0 → z.2 5 (BPL (zV z) (rP z PP ch) id k) = 1 ∧ 69 ≤ BPL (zV z) (rP z PP ch) id k ∧ BPL (zV z) (rP z PP ch) id k < 69 + 16 * z.1 6 := h9.2.2.1
theorem REC.s1 {z : NSt} {BP : Nat → Nat → Nat} {PP : Nat → Nat} {ch : List Nat} {T : TRE} (h9 : REC z BP PP ch T) : ∀ id k, BPL (zV z) (rP z PP ch) id k ≠ 0 → z.2 9 (BPL (zV z) (rP z PP ch) id k) ≠ 0 → ∃ k', BP id k' = BPL (zV z) (rP z PP ch) id k := h9.2.2.2.1
theorem REC.s2 {z : NSt} {BP : Nat → Nat → Nat} {PP : Nat → Nat} {ch : List Nat} {T : TRE} (h9 : REC z BP PP ch T) : ∀ b, b ∈ ch ∨ (∃ n, PP n = b ∧ b ≠ 0) → z.2 9 b ≠ 2 := h9.2.2.2.2.1
theorem REC.nd {z : NSt} {BP : Nat → Nat → Nat} {PP : Nat → Nat} {ch : List Nat} {T : TRE} (h9 : REC z BP PP ch T) : ∀ b, b ∈ ch ∨ (∃ n, PP n = b ∧ b ≠ 0) → ∀ i k, BPL (zV z) (rP z PP ch) i k ≠ b := h9.2.2.2.2.2.1
theorem REC.s3 {z : NSt} {BP : Nat → Nat → Nat} {PP : Nat → Nat} {ch : List Nat} {T : TRE} (h9 : REC z BP PP ch T) : ∀ b, b ∈ ch ∨ (∃ n, PP n = b ∧ b ≠ 0) → sg b ≠ sg (z.1 9) ∧ ∀ d, z.2 9 d = 2 → sg d ≠ sg b := h9.2.2.2.2.2.2.1
theorem REC.n3 {z : NSt} {BP : Nat → Nat → Nat} {PP : Nat → Nat} {ch : List Nat} {T : TRE} (h9 : REC z BP PP ch T) : ∀ b, (b ∈ ch ∨ (∃ n, PP n = b ∧ b ≠ 0)) ∨ b = z.1 8 → ∀ i k, BPL (zV z) (rP z PP ch) i k ≠ 0 → sg (BPL (zV z) (rP z PP ch) i k) ≠ sg b := h9.2.2.2.2.2.2.2
def WK (z : NSt) (BP : Nat → Nat → Nat) (T : TRE) (tk : TKS) (PP : Nat → Nat) (ch : List Nat) : Prop := (LG z) ∧ (TR (z.2 6) BP (z.2 9)) ∧ (NUM (zV z) (z.2 6)) ∧ (∀ a, a ≠ 10 → a ≠ 11 → ∀ i, z.2 a i < 2 ^ 32) ∧ (PKO z tk.1 PP) ∧ (CHO z PP ch) ∧ (REC z BP PP ch T) ∧ (∀ o, hasM (zV z) ch o = tk.2 o)
theorem WK.lg {z : NSt} {BP : Nat → Nat → Nat} {T : TRE} {tk : TKS} {PP : Nat → Nat} {ch : List Nat} (h9 : WK z BP T tk PP ch) : LG z := h9.1
theorem WK.tr {z : NSt} {BP : Nat → Nat → Nat} {T : TRE} {tk : TKS} {PP : Nat → Nat} {ch : List Nat} (h9 : WK z BP T tk PP ch) : TR (z.2 6) BP (z.2 9) := h9.2.1
theorem WK.nu {z : NSt} {BP : Nat → Nat → Nat} {T : TRE} {tk : TKS} {PP : Nat → Nat} {ch : List Nat} (h9 : WK z BP T tk PP ch) : NUM (zV z) (z.2 6) := h9.2.2.1
theorem WK.wd {z : NSt} {BP : Nat → Nat → Nat} {T : TRE} {tk : TKS} {PP : Nat → Nat} {ch : List Nat} (h9 : WK z BP T tk PP ch) : ∀ a, a ≠ 10 → a ≠ 11 → ∀ i, z.2 a i < 2 ^ 32 := h9.2.2.2.1
theorem WK.pk {z : NSt} {BP : Nat → Nat → Nat} {T : TRE} {tk : TKS} {PP : Nat → Nat} {ch : List Nat} (h9 : WK z BP T tk PP ch) : PKO z tk.1 PP := h9.2.2.2.2.1
theorem WK.co {z : NSt} {BP : Nat → Nat → Nat} {T : TRE} {tk : TKS} {PP : Nat → Nat} {ch : List Nat} (h9 : WK z BP T tk PP ch) : CHO z PP ch := h9.2.2.2.2.2.1
theorem WK.rc {z : NSt} {BP : Nat → Nat → Nat} {T : TRE} {tk : TKS} {PP : Nat → Nat} {ch : List Nat} (h9 : WK z BP T tk PP ch) : REC z BP PP ch T := h9.2.2.2.2.2.2.1
theorem WK.hm {z : NSt} {BP : Nat → Nat → Nat} {T : TRE} {tk : TKS} {PP : Nat → Nat} {ch : List Nat} (h9 : WK z BP T tk PP ch) : ∀ o, hasM (zV z) ch o = tk.2 o := h9.2.2.2.2.2.2.2
theorem CHO.rp {z : NSt} {PP : Nat → Nat} {ch : List Nat} (h : CHO z PP ch) (n : Nat) (hn : rP z PP ch n ≠ 0) : z.2 5 (rP z PP ch n) = 1 ∧ 69 ≤ rP z PP ch n ∧ rP z PP ch n < 69 + 16 * z.1 6 ∧ 1 ≤ n ∧ n < 2048 ∧ zV z (rP z PP ch n) 60 = n := by
  rcases fwd_val (zV z) n ch PP with e | ⟨h1, h2, -⟩
  · have e : rP z PP ch n = PP n := e
    rw [e] at hn ⊢
    obtain ⟨a, b, c, d, f, g, -⟩ := h.pw n hn
    exact ⟨a, b, c, d, f, g⟩
  · obtain ⟨a, b, c, d, e, f, g, i, j⟩ := h.el _ h1
    have h2 : zV z (rP z PP ch n) 60 = n := h2
    refine ⟨a, b, c, ?_, ?_, h2⟩
    · rw [← h2]; exact g
    · rw [← h2]; exact i
theorem CHO.rp0 {z : NSt} {PP : Nat → Nat} {ch : List Nat} (h : CHO z PP ch) : rP z PP ch 0 = 0 := by
  by_cases q : rP z PP ch 0 = 0
  · exact q
  · have := (h.rp 0 q).2.2.2.1
    omega
/-- what is written stays -/
def KW (z y : NSt) : Prop := (∀ b, z.2 5 b ≠ 0 → y.2 5 b ≠ 0 ∧ zV y b = zV z b) ∧ ∀ b, b < 69 → zV y b = zV z b
theorem KW.of4 {z y : NSt} (h4 : y.2 4 = z.2 4) (h5 : y.2 5 = z.2 5) : KW z y := ⟨fun b q => ⟨by rw [h5]; exact q, zV_congr h4 b⟩, fun b _ => zV_congr h4 b⟩
theorem PD.kw {z y : NSt} {a : Nat} (h : PD z a y) : KW z y := by
  obtain ⟨-, h5, -, -, -, -, hw, -, h69, -⟩ := id h
  refine ⟨fun b q => ?_, fun b q => ?_⟩
  · have hne : b ≠ z.1 9 := fun e => q (by rw [e]; exact hw)
    exact ⟨by rw [h5, va_up_ne _ _ hne]; exact q, by rw [h.V, if_neg hne]⟩
  · rw [h.V, if_neg (by omega)]
theorem PN.kw {z y : NSt} {a n k : Nat} (h : PN z a n k y) : KW z y := by
  obtain ⟨-, h5, -, -, -, -, -, -, hw, -, h69, -, -⟩ := id h
  refine ⟨fun b q => ?_, fun b q => ?_⟩
  · have hne : b ≠ z.1 8 := fun e => q (by rw [e]; exact hw)
    exact ⟨by rw [h5, va_up_ne _ _ hne]; exact q, by rw [h.V, if_neg hne]⟩
  · rw [h.V, if_neg (by omega)]
theorem KW.trans {x y z : NSt} (h : KW x y) (g : KW y z) : KW x z := ⟨fun b q => ⟨(g.1 b (h.1 b q).1).1, by rw [(g.1 b (h.1 b q).1).2, (h.1 b q).2]⟩, fun b q => by rw [g.2 b q, h.2 b q]⟩
theorem KW.rf (z : NSt) : KW z z := ⟨fun _ q => ⟨q, rfl⟩, fun _ _ => rfl⟩
theorem PKO.keep {z y : NSt} {tk : Nat} {PP : Nat → Nat} (h : PKO z tk PP) (hk : KW z y) (h6 : y.1 6 = z.1 6) (h11 : y.1 11 = z.1 11) (h16 : y.1 16 = z.1 16) (hf : ∀ s, y.2 12 s ≠ 0 → z.2 12 s ≠ 0) : PKO y tk PP := by
  have b1 := pkB_le (z.1 11)
  have b2 := pkB_le (z.1 11 + 1)
  have k := hk.2
  refine ⟨?_, ?_, ?_, ?_, fun n h1 h2 => ?_, fun s hs q => ?_, ?_, ?_⟩
  · rw [h11]; exact h.ser
  · rw [h11, k _ (by omega)]; exact h.h0
  · rw [h11, k _ (by omega)]; exact h.h1
  · rw [h11, k _ (by omega)]; exact h.ht
  · rw [h11, k _ (by omega)]; exact h.hp n h1 h2
  · rw [h6] at hs
    rw [h11, k _ (by omega)]; exact h.hb s hs (hf s q)
  · rw [h11, k _ (by omega), k _ (by omega)]; exact h.ho
  · rw [h6, h16, k 0 (by omega)]; exact h.su
theorem CHO.keepW {z y : NSt} {PP : Nat → Nat} {ch : List Nat} (h : CHO z PP ch) (hk : KW z y) : (∀ c, c ∈ ch → zV y c = zV z c) ∧ ∀ n, PP n ≠ 0 → zV y (PP n) = zV z (PP n) :=
  ⟨fun c hc => (hk.1 c (by rw [(h.el c hc).1]; decide)).2, fun n hn => (hk.1 _ (by rw [(h.pw n hn).1]; decide)).2⟩
theorem KW.one {z y : NSt} (hk : KW z y) (hl : LG y) {b : Nat} (h : z.2 5 b = 1) : y.2 5 b = 1 := by
  have h1 := (hk.1 b (by omega)).1
  have := hl.1.2.2.2.2.1.1 b
  omega
theorem CHO.keep {z y : NSt} {PP : Nat → Nat} {ch : List Nat} (h : CHO z PP ch) (hk : KW z y) (hl : LG y) (h6 : y.1 6 = z.1 6) (h8 : y.1 8 = z.1 8) (h11 : y.1 11 = z.1 11) (hP : ∀ n, y.2 6 n ≠ 0 → y.2 6 n = z.2 6 n) (hK : ∀ n, n < 2048 → y.2 7 n = z.2 7 n ∨ (250 < n ∧ y.2 7 n ≠ 0)) : CHO y PP ch := by
  obtain ⟨w1, w2⟩ := h.keepW hk
  have b1 := pkB_le (z.1 11)
  refine ⟨?_, fun b hb => ?_, h.nd, fun b c hb hc e => ?_, fun b hb q => ?_, fun n q => ?_, fun n q => ?_, fun n h1 h2 q => ?_, fun n hn => ?_⟩
  · rw [h11, hk.2 _ (by omega), h8]
    exact chn_congr w1 h.lk
  · rw [w1 b hb, h6, h11]
    have := h.el b hb
    exact ⟨hk.one hl this.1, this.2⟩
  · rw [w1 b hb, w1 c hc] at *
    exact h.ow b c hb hc e
  · rw [w1 b hb] at q ⊢
    rw [w2 _ q]
    exact h.op b hb q
  · rw [w2 n q, h6]
    have := h.pw n q
    exact ⟨hk.one hl this.1, this.2⟩
  · rw [hP n q, LE_congr w1]
    rw [hP n q] at q
    exact h.le n q
  · rcases hK n h2 with e | ⟨-, e⟩
    · rw [e] at q
      obtain ⟨a, b⟩ := h.kp n h1 h2 q
      exact ⟨a, fun c hc => by rw [w1 c hc]; exact b c hc⟩
    · exact absurd q e
  · rcases hK n (by omega) with e | ⟨e, -⟩
    · rw [e]; exact h.ki n hn
    · omega
theorem LG.k1 {z : NSt} (h : LG z) {b : Nat} (hb : z.2 9 b = 1) : 1 ≤ z.2 10 (sg b) ∧ sg b < 128 := by
  have h1 := h.cnt_pos (p := b) (by omega)
  rw [if_pos hb] at h1
  have h2 := h.1.2.1 b (by omega)
  have h3 := sg_lt' h2.2.1 h2.2.2.1
  have h4 := h.1.1.2.1
  exact ⟨h1, by omega⟩
theorem LG.k2 {z : NSt} (h : LG z) {b : Nat} (hb : z.2 9 b = 2) : 1 ≤ z.2 11 (sg b) ∧ sg b < 128 := by
  have h1 := h.cnt_pos (p := b) (by omega)
  rw [if_neg (by omega)] at h1
  have h2 := h.1.2.1 b (by omega)
  have h3 := sg_lt' h2.2.1 h2.2.2.1
  have h4 := h.1.1.2.1
  exact ⟨h1, by omega⟩
theorem LG.pur {z : NSt} (h : LG z) {b d : Nat} (hb : z.2 9 b = 1) (hd : z.2 9 d = 2) : sg d ≠ sg b := fun e => by
  have h1 := h.k1 hb
  have h2 := h.k2 hd
  rw [e] at h2
  have h3 := h.1.2.2.2.2.2.1 (sg b) h1.2
  omega
theorem LG.p8 {z : NSt} (h : LG z) {d : Nat} (hd : z.2 9 d = 2) : sg d ≠ sg (z.1 8) := fun e => by
  have h2 := h.k2 hd
  rw [e] at h2
  have h3 := h.2.2.2.2.1
  omega
theorem LG.p9 {z : NSt} (h : LG z) {b : Nat} (hb : z.2 9 b = 1) : sg b ≠ sg (z.1 9) := fun e => by
  have h2 := h.k1 hb
  rw [e] at h2
  have h3 := h.2.2.2.2.2
  omega
theorem LG.fre {z : NSt} (h : LG z) {s b : Nat} (hs : z.2 12 s ≠ 0) (h69 : 69 ≤ b) (hb : sg b = s) : z.2 5 b = 0 := by
  have h1 := (h.1.2.2.2.1.1 s hs).2.2 ((b - 69) % 16) (Nat.mod_lt _ (by decide))
  rw [← hb, sg_dec h69] at h1
  exact h1
theorem REC.keep {z y : NSt} {BP BP' : Nat → Nat → Nat} {PP : Nat → Nat} {ch ch' : List Nat} {T : TRE} (h : REC z BP PP ch T) (hc : CHO z PP ch) (hk : KW z y) (hl : LG y) (h6 : y.1 6 = z.1 6) (hr : rP y PP ch' = rP z PP ch) (hs : ∀ id b k, z.2 5 b ≠ 0 → y.2 9 b ≠ 0 → BP id k = b → ∃ k', BP' id k' = b) (hu : ∀ b, z.2 5 b ≠ 0 → y.2 9 b ≠ 0 → z.2 9 b ≠ 0) (hu2 : ∀ b, z.2 5 b ≠ 0 → y.2 9 b = 2 → z.2 9 b = 2) (hch : ∀ b, b ∈ ch' → b ∉ ch → y.2 9 b ≠ 2 ∧ z.2 5 b = 0 ∧ sg b = sg (z.1 8)) (h69 : ∀ b, b ∈ ch' → 69 ≤ b) (hlz : LG z) (he8 : sg (y.1 8) = sg (z.1 8) ∨ z.2 12 (sg (y.1 8)) ≠ 0) (he9 : sg (y.1 9) = sg (z.1 9) ∨ z.2 12 (sg (y.1 9)) ≠ 0) (hd2 : ∀ d, y.2 9 d = 2 → z.2 9 d = 2 ∨ sg d = sg (z.1 9)) : REC y BP' PP ch' T := by
  obtain ⟨t1, t2⟩ := h.tok.keep (W' := zV y) hc.rp0 (fun n q => (hk.1 _ (by rw [(hc.rp n q).1]; decide)).2) (fun id k q => (hk.1 _ (by rw [(h.wr id k q).1]; decide)).2)
  have t2 : ∀ id k, BPL (zV y) (rP y PP ch') id k = BPL (zV z) (rP z PP ch) id k := fun id k => by rw [hr]; exact t2 id k
  have hnw : ∀ b, b ∈ ch' ∨ (∃ n, PP n = b ∧ b ≠ 0) → (b ∈ ch ∨ (∃ n, PP n = b ∧ b ≠ 0)) ∧ z.2 5 b ≠ 0 ∧ 69 ≤ b ∨ (y.2 9 b ≠ 2 ∧ z.2 5 b = 0 ∧ sg b = sg (z.1 8)) := fun b q => by
    rcases q with q | ⟨n, q1, q2⟩
    · by_cases c : b ∈ ch
      · exact Or.inl ⟨Or.inl c, by rw [(hc.el b c).1]; decide, (hc.el b c).2.1⟩
      · exact Or.inr (hch b q c)
    · exact Or.inl ⟨Or.inr ⟨n, q1, q2⟩, by rw [← q1] at q2 ⊢; rw [(hc.pw n q2).1]; decide, by rw [← q1] at q2 ⊢; exact (hc.pw n q2).2.1⟩
  refine ⟨by rw [hr]; exact t1, fun id k id' k' q e => ?_, fun id k q => ?_, fun id k q u => ?_, fun b q => ?_, fun b q i k => ?_, fun b q => ?_, fun b q i k q0 => ?_⟩
  · rw [t2] at q e
    rw [t2] at e
    exact h.inj id k id' k' q e
  · rw [t2] at q ⊢
    rw [h6]
    have := h.wr id k q
    exact ⟨hk.one hl this.1, this.2⟩
  · rw [t2] at q u ⊢
    have w := (h.wr id k q).1
    obtain ⟨k', e⟩ := h.s1 id k q (hu _ (by omega) u)
    exact hs id _ k' (by omega) u e
  · rcases hnw b q with ⟨v1, v2⟩ | ⟨v1, -⟩
    · exact fun w => h.s2 b v1 (hu2 b v2.1 w)
    · exact v1
  · rw [t2]
    rcases hnw b q with ⟨v1, -⟩ | ⟨-, v2, -⟩
    · exact h.nd b v1 i k
    · intro w
      by_cases c : b = 0
      · rcases q with q | ⟨n, -, q2⟩
        · by_cases d : b ∈ ch
          · have := (hc.el b d).2.1
            omega
          · have := h69 b q
            omega
        · exact q2 c
      · have := (h.wr i k (by rw [w]; exact c)).1
        rw [w] at this
        omega
  · have f8 := hlz.2.1.2.2.1
    have f89 := hlz.2.2.2.1
    rcases hnw b q with ⟨v1, v2, v3⟩ | ⟨-, -, v3⟩
    · obtain ⟨a1, a2⟩ := h.s3 b v1
      refine ⟨fun w => ?_, fun d hd => ?_⟩
      · rcases he9 with c | c
        · exact a1 (by rw [w, c])
        · exact v2 (hlz.fre c v3 w)
      · rcases hd2 d hd with c | c
        · exact a2 d c
        · rw [c]; exact Ne.symm a1
    · rw [v3]
      refine ⟨fun w => ?_, fun d hd => ?_⟩
      · rcases he9 with c | c
        · exact f89 (by rw [w, c])
        · rw [← w] at c; exact c f8
      · rcases hd2 d hd with c | c
        · exact hlz.p8 c
        · rw [c]; exact Ne.symm f89
  · rw [t2] at q0 ⊢
    rcases q with q | q
    · rcases hnw b q with ⟨v1, -⟩ | ⟨-, -, v3⟩
      · exact h.n3 b (Or.inl v1) i k q0
      · rw [v3]; exact h.n3 _ (Or.inr rfl) i k q0
    · rw [q]
      rcases he8 with c | c
      · rw [c]; exact h.n3 _ (Or.inr rfl) i k q0
      · intro w
        have hwr := h.wr i k q0
        rw [hlz.fre c hwr.2.1 w] at hwr
        exact absurd hwr.1 (by decide)
/-- the words stay small -/
def WD (z : NSt) : Prop := ∀ a, a ≠ 10 → a ≠ 11 → ∀ i, z.2 a i < 2 ^ 32
theorem PD.wd {z y : NSt} {a : Nat} (h : PD z a y) (hl : LG y) (ha : a ≠ 10 ∧ a ≠ 11) (hw : WD z) : WD y := by
  obtain ⟨h4, h5, h9, hn, -⟩ := h
  intro c c10 c11 i
  by_cases c4 : c = 4
  · rw [c4, h4]
    unfold va_cpy
    split
    · exact hw _ ha.1 ha.2 _
    · exact hw 4 (by decide) (by decide) _
  · by_cases c5 : c = 5
    · rw [c5]
      have := hl.1.2.2.2.2.1.1 i
      omega
    · by_cases c9 : c = 9
      · rw [c9]
        have := hl.use2 i
        omega
      · by_cases c12 : c = 12
        · rw [c12]; exact hl.free1 i
        · rw [hn c c4 c5 c9 c11 c12]
          exact hw _ c10 c11 _
theorem ndW_wd {f : Nat → Nat} {n k s e : Nat} (hf : ∀ i, f i < 2 ^ 32) (hn : n < 2048) (hk : k ≤ 1) (hs : s < 2 ^ 32) (he : e < 2 ^ 32) (i : Nat) : ndW f n k s e i < 2 ^ 32 := by
  unfold ndW
  split
  · exact he
  · split
    · exact hs
    · split
      · omega
      · split
        · omega
        · exact hf i
theorem PN.wd {z y : NSt} {a n k : Nat} (h : PN z a n k y) (hl : LG y) (ha : a ≠ 10 ∧ a ≠ 11) (hw : WD z) (hn : n < 2048) (hk : k ≤ 1) (hs : z.1 11 < 2 ^ 32) : WD y := by
  obtain ⟨h4, h5, h6, h9, hA, hr, -, -, -, -, h69, h70, -⟩ := h
  have he : y.1 8 < 2 ^ 32 := by have := hl.end8; omega
  have hN := ndW_wd (f := z.2 a) (n := n) (k := k) (hw a ha.1 ha.2) hn hk hs he
  have hS := hl.1.1.2.1
  have h70' : z.1 8 < 2 ^ 32 := by
    have e := hr
    have : z.1 6 = z.1 6 := rfl
    have h9' := hl.use2
    by_cases q : y.2 9 (z.1 8) = 0
    · have h9z : va_up (va_up (z.2 9) (z.1 8) 1) (z.2 6 n) 0 (z.1 8) = 0 := by rw [← h9]; exact q
      by_cases c : z.1 8 = z.2 6 n
      · rw [c]; exact hw 6 (by decide) (by decide) _
      · rw [va_up_ne _ _ c, va_up_self] at h9z
        omega
    · have := hl.1.2.1 _ q
      omega
  intro c c10 c11 i
  by_cases c4 : c = 4
  · rw [c4, h4]
    unfold va_cpy
    split
    · exact hN _
    · exact hw 4 (by decide) (by decide) _
  · by_cases c5 : c = 5
    · rw [c5]
      have := hl.1.2.2.2.2.1.1 i
      omega
    · by_cases c9 : c = 9
      · rw [c9]
        have := hl.use2 i
        omega
      · by_cases c12 : c = 12
        · rw [c12]; exact hl.free1 i
        · by_cases c6 : c = 6
          · rw [c6, h6]
            unfold va_up
            split
            · exact h70'
            · exact hw 6 (by decide) (by decide) _
          · by_cases ca : c = a
            · rw [ca, hA]; exact hN i
            · rw [hr c c4 c5 c6 c9 c10 c11 c12 ca]
              exact hw _ c10 c11 _
theorem WK.p1 {z : NSt} {BP : Nat → Nat → Nat} {T : TRE} {tk : TKS} {PP : Nat → Nat} {ch : List Nat} (h : WK z BP T tk PP ch) {n : Nat} (hn : z.2 6 n ≠ 0) : z.2 5 (z.2 6 n) = 1 ∧ 69 ≤ z.2 6 n ∧ z.2 6 n < 2117 ∧ z.2 9 (z.2 6 n) = 1 := by
  rcases h.tr.pb h.lg n with q | ⟨a, b, c, d, e⟩
  · exact absurd q hn
  · exact ⟨e, a, c, d⟩
theorem NUM.keep {z y : NSt} (h : NUM (zV z) (z.2 6)) (hk : KW z y) (hw : ∀ n, z.2 6 n ≠ 0 → z.2 5 (z.2 6 n) ≠ 0) (hP : ∀ n, y.2 6 n ≠ 0 → y.2 6 n = z.2 6 n) : NUM (zV y) (y.2 6) := by
  intro n hn
  have e := hP n hn
  rw [e] at hn ⊢
  obtain ⟨a, b, c⟩ := h n hn
  refine ⟨a, b, ?_⟩
  rw [(hk.1 _ (hw n hn)).2]
  exact c
/-- a data block is put -/
theorem WK.data {z y : NSt} {BP : Nat → Nat → Nat} {T : TRE} {tk : TKS} {PP : Nat → Nat} {ch : List Nat} (h : WK z BP T tk PP ch) {a n i : Nat} (ha : a ≠ 10 ∧ a ≠ 11) (hp : PD z a y) (hl : LG y) (hr : BP n i = 0) : WK y (up2' BP n i (z.1 9)) T tk PP ch := by
  obtain ⟨h4, h5, h9, hn, hs, hu, hw0, hu0, h69, h70, h12, hsg9, -⟩ := _root_.id hp
  have hk := hp.kw
  have e6 : y.2 6 = z.2 6 := hn 6 (by decide) (by decide) (by decide) (by decide) (by decide)
  have e7 : y.2 7 = z.2 7 := hn 7 (by decide) (by decide) (by decide) (by decide) (by decide)
  have s6 : y.1 6 = z.1 6 := hs 6 (by decide) (by decide) (by decide)
  have s8 : y.1 8 = z.1 8 := hs 8 (by decide) (by decide) (by decide)
  have s11 : y.1 11 = z.1 11 := hs 11 (by decide) (by decide) (by decide)
  have s16 : y.1 16 = z.1 16 := hs 16 (by decide) (by decide) (by decide)
  have hne : ∀ b, z.2 5 b ≠ 0 → b ≠ z.1 9 := fun b q e => q (by rw [e]; exact hw0)
  refine ⟨hl, ?_, ?_, hp.wd hl ha h.wd, h.pk.keep hk s6 s11 s16 h12, h.co.keep hk hl s6 s8 s11 (fun n _ => by rw [e6]) (fun n _ => Or.inl (by rw [e7])), h.rc.keep h.co hk hl s6 ?_ (fun id b k q u e => ?_) (fun b q u => ?_) (fun b q u => ?_) (fun b q1 q2 => absurd q1 q2) (fun b q => (h.co.el b q).2.1) h.lg (Or.inl (by rw [s8])) hsg9 (fun d q => ?_), fun o => by rw [hasM_congr (h.co.keepW hk).1]; exact h.hm o⟩
  · rw [e6, h9]
    exact h.tr.add hu0 (by omega) hr
  · exact h.nu.keep hk (fun n q => by rw [(h.p1 q).1]; decide) (fun n _ => by rw [e6])
  · exact fwd_congr (h.co.keepW hk).1 PP
  · refine ⟨k, ?_⟩
    rw [u2_n]
    · exact e
    · rintro ⟨rfl, rfl⟩
      rw [hr] at e
      rw [h9, va_up_ne _ _ (hne b q), ← e, h.lg.u0] at u
      exact u rfl
  · rwa [h9, va_up_ne _ _ (hne b q)] at u
  · rwa [h9, va_up_ne _ _ (hne b q)] at u
  · by_cases c : d = z.1 9
    · rw [c]; exact Or.inr rfl
    · rw [h9, va_up_ne _ _ c] at q; exact Or.inl q
/-- a data block is given up -/
theorem WK.drop {z : NSt} {BP : Nat → Nat → Nat} {T : TRE} {tk : TKS} {PP : Nat → Nat} {ch : List Nat} (h : WK z BP T tk PP ch) {n i : Nat} (hr : BP n i ≠ 0) : WK (drpZ (BP n i) z) (up2' BP n i 0) T tk PP ch := by
  obtain ⟨Y, eY⟩ : ∃ Y, Y = drpZ (BP n i) z := ⟨_, rfl⟩
  have hl := (drop_LG h.lg (BP n i)).1
  have e1 : Y.1 = z.1 := by rw [eY, drp_1]
  have e9 : Y.2 9 = va_up (z.2 9) (BP n i) 0 := by rw [eY, drp_9 h.lg]
  have e2 : ∀ b, b ≠ 9 → b ≠ 10 → b ≠ 11 → Y.2 b = z.2 b := fun b x y w => by rw [eY, drp_2 _ _ x y w]
  rw [← eY] at hl ⊢
  have hk : KW z Y := KW.of4 (e2 4 (by decide) (by decide) (by decide)) (e2 5 (by decide) (by decide) (by decide))
  have e6 := e2 6 (by decide) (by decide) (by decide)
  have e7 := e2 7 (by decide) (by decide) (by decide)
  refine ⟨hl, ?_, ?_, fun a x y i => ?_, h.pk.keep hk (by rw [e1]) (by rw [e1]) (by rw [e1]) (fun s q => by rwa [e2 12 (by decide) (by decide) (by decide)] at q), h.co.keep hk hl (by rw [e1]) (by rw [e1]) (by rw [e1]) (fun n _ => by rw [e6]) (fun n _ => Or.inl (by rw [e7])), h.rc.keep h.co hk hl (by rw [e1]) ?_ (fun id b k q u e => ?_) (fun b q u => ?_) (fun b q u => ?_) (fun b q1 q2 => absurd q1 q2) (fun b q => (h.co.el b q).2.1) h.lg (Or.inl (by rw [e1])) (Or.inl (by rw [e1])) (fun d q => ?_), fun o => by rw [hasM_congr (h.co.keepW hk).1]; exact h.hm o⟩
  · rw [e6, e9]
    exact h.tr.del hr
  · exact h.nu.keep hk (fun n q => by rw [(h.p1 q).1]; decide) (fun n _ => by rw [e6])
  · by_cases c : a = 9
    · rw [c]
      have := hl.use2 i
      omega
    · rw [e2 a c x y]; exact h.wd a x y i
  · exact fwd_congr (h.co.keepW hk).1 PP
  · refine ⟨k, ?_⟩
    rw [u2_n]
    · exact e
    · rintro ⟨rfl, rfl⟩
      rw [e9, e, va_up_self] at u
      exact u rfl
  · rw [e9] at u
    by_cases c : b = BP n i
    · rw [c, va_up_self] at u; exact absurd rfl u
    · rwa [va_up_ne _ _ c] at u
  · rw [e9] at u
    by_cases c : b = BP n i
    · rw [c, va_up_self] at u; omega
    · rwa [va_up_ne _ _ c] at u
  · rw [e9] at q
    by_cases c : d = BP n i
    · rw [c, va_up_self] at q; omega
    · rw [va_up_ne _ _ c] at q; exact Or.inl q
/-- a node is given up -/
theorem WK.gone {z : NSt} {BP : Nat → Nat → Nat} {T : TRE} {tk : TKS} {PP : Nat → Nat} {ch : List Nat} (h : WK z BP T tk PP ch) (n : Nat) : WK (zA (drpZ (z.2 6 n) z) 6 n 0) BP T tk PP ch := by
  obtain ⟨X, eX⟩ : ∃ X, X = drpZ (z.2 6 n) z := ⟨_, rfl⟩
  have hlX := (drop_LG h.lg (z.2 6 n)).1
  have x1 : X.1 = z.1 := by rw [eX, drp_1]
  have x9 : X.2 9 = va_up (z.2 9) (z.2 6 n) 0 := by rw [eX, drp_9 h.lg]
  have x2 : ∀ b, b ≠ 9 → b ≠ 10 → b ≠ 11 → X.2 b = z.2 b := fun b x y w => by rw [eX, drp_2 _ _ x y w]
  rw [← eX] at hlX ⊢
  obtain ⟨Y, eY⟩ : ∃ Y, Y = zA X 6 n 0 := ⟨_, rfl⟩
  have y1 : Y.1 = z.1 := by rw [eY, zA1, x1]
  have y2 : ∀ b, b ≠ 6 → Y.2 b = X.2 b := fun b hb => by rw [eY, zA2, if_neg hb]
  have y6 : Y.2 6 = va_up (z.2 6) n 0 := by rw [eY, zA2, if_pos rfl, x2 6 (by decide) (by decide) (by decide)]
  have hl : LG Y := hlX.frame (fun k _ _ => by rw [y1, x1]) (fun a ha => y2 a (by omega))
  rw [← eY]
  have hk : KW z Y := KW.of4 (by rw [y2 4 (by decide), x2 4 (by decide) (by decide) (by decide)]) (by rw [y2 5 (by decide), x2 5 (by decide) (by decide) (by decide)])
  have e7 : Y.2 7 = z.2 7 := by rw [y2 7 (by decide), x2 7 (by decide) (by decide) (by decide)]
  have e9 : Y.2 9 = va_up (z.2 9) (z.2 6 n) 0 := by rw [y2 9 (by decide), x9]
  have hP : ∀ m, Y.2 6 m ≠ 0 → Y.2 6 m = z.2 6 m := fun m q => by
    rw [y6] at q ⊢
    by_cases c : m = n
    · rw [c, va_up_self] at q; exact absurd rfl q
    · rw [va_up_ne _ _ c]
  refine ⟨hl, ?_, ?_, fun a x y i => ?_, h.pk.keep hk (by rw [y1]) (by rw [y1]) (by rw [y1]) (fun s q => by rwa [y2 12 (by decide), x2 12 (by decide) (by decide) (by decide)] at q), h.co.keep hk hl (by rw [y1]) (by rw [y1]) (by rw [y1]) hP (fun n _ => Or.inl (by rw [e7])), h.rc.keep h.co hk hl (by rw [y1]) ?_ (fun id b k q u e => ⟨k, e⟩) (fun b q u => ?_) (fun b q u => ?_) (fun b q1 q2 => absurd q1 q2) (fun b q => (h.co.el b q).2.1) h.lg (Or.inl (by rw [y1])) (Or.inl (by rw [y1])) (fun d q => ?_), fun o => by rw [hasM_congr (h.co.keepW hk).1]; exact h.hm o⟩
  · rw [y6, e9]
    exact h.tr.gone h.lg.u0
  · exact h.nu.keep hk (fun n q => by rw [(h.p1 q).1]; decide) hP
  · by_cases c : a = 9
    · rw [c]
      have := hl.use2 i
      omega
    · by_cases c6 : a = 6
      · rw [c6, y6]
        unfold va_up
        split
        · decide
        · exact h.wd 6 (by decide) (by decide) i
      · rw [y2 a c6, x2 a c x y]; exact h.wd a x y i
  · exact fwd_congr (h.co.keepW hk).1 PP
  · rw [e9] at u
    by_cases c : b = z.2 6 n
    · rw [c, va_up_self] at u; exact absurd rfl u
    · rwa [va_up_ne _ _ c] at u
  · rw [e9] at u
    by_cases c : b = z.2 6 n
    · rw [c, va_up_self] at u; omega
    · rwa [va_up_ne _ _ c] at u
  · rw [e9] at q
    by_cases c : d = z.2 6 n
    · rw [c, va_up_self] at q; omega
    · rw [va_up_ne _ _ c] at q; exact Or.inl q
/-- memory changes -/
theorem WK.mem {z y : NSt} {BP : Nat → Nat → Nat} {T : TRE} {tk : TKS} {PP : Nat → Nat} {ch : List Nat} (h : WK z BP T tk PP ch) (h1 : ∀ k, 5 ≤ k → k ≤ 11 ∨ k = 16 → y.1 k = z.1 k) (h2 : ∀ a, 4 ≤ a → a ≤ 12 → a ≠ 7 → a ≠ 8 → y.2 a = z.2 a) (h7 : ∀ n, n < 2048 → y.2 7 n = z.2 7 n ∨ (250 < n ∧ y.2 7 n ≠ 0)) (hw : WD y) : WK y BP T tk PP ch := by
  have e4 := h2 4 (by decide) (by decide) (by decide) (by decide)
  have e5 := h2 5 (by decide) (by decide) (by decide) (by decide)
  have e6 := h2 6 (by decide) (by decide) (by decide) (by decide)
  have e9 := h2 9 (by decide) (by decide) (by decide) (by decide)
  have e12 := h2 12 (by decide) (by decide) (by decide) (by decide)
  have hl : LG y := h.lg.frame (fun k a b => h1 k a (by omega)) (fun a ha => h2 a (by omega) (by omega) (by omega) (by omega))
  have hk : KW z y := KW.of4 e4 e5
  have s6 : y.1 6 = z.1 6 := h1 6 (by omega) (by omega)
  have s8 : y.1 8 = z.1 8 := h1 8 (by omega) (by omega)
  have s11 : y.1 11 = z.1 11 := h1 11 (by omega) (by omega)
  have s16 : y.1 16 = z.1 16 := h1 16 (by omega) (by omega)
  refine ⟨hl, by rw [e6, e9]; exact h.tr, h.nu.keep hk (fun n q => by rw [(h.p1 q).1]; decide) (fun n _ => by rw [e6]), hw, h.pk.keep hk s6 s11 s16 (fun s q => by rwa [e12] at q), h.co.keep hk hl s6 s8 s11 (fun n _ => by rw [e6]) h7, h.rc.keep h.co hk hl s6 (fwd_congr (h.co.keepW hk).1 PP) (fun id b k q u e => ⟨k, e⟩) (fun b q u => by rwa [e9] at u) (fun b q u => by rwa [e9] at u) (fun b q1 q2 => absurd q1 q2) (fun b q => (h.co.el b q).2.1) h.lg (Or.inl (by rw [s8])) (Or.inl (by rw [h1 9 (by omega) (by omega)])) (fun d q => Or.inl (by rwa [e9] at q)), fun o => by rw [hasM_congr (h.co.keepW hk).1]; exact h.hm o⟩
/-- a node is put, with no mark -/
theorem WK.node {z y : NSt} {BP : Nat → Nat → Nat} {T : TRE} {tk : TKS} {PP : Nat → Nat} {ch : List Nat} (h : WK z BP T tk PP ch) {a n : Nat} (ha : 13 ≤ a) (hp : PN z a n 0 y) (hl : LG y) (hn1 : 1 ≤ n) (hn2 : n < 2048) (ho1 : 1 ≤ z.2 a 61) (ho2 : z.2 a 61 ≤ 250) (ho3 : n ≤ 250 → z.2 a 61 = n) (ho4 : 250 < n → (z.2 6 n ≠ 0 ∧ zV z (z.2 6 n) 61 = z.2 a 61) ∨ (z.2 7 n ≠ 0 ∧ PP n = 0 ∧ ∀ b, b ∈ ch → zV z b 60 ≠ n)) (hs : z.1 11 < 2 ^ 32) : WK y BP T tk PP (ch ++ [z.1 8]) := by
  obtain ⟨h4, h5, h6, h9, hA, hr, hsc, hu, hw0, hu0, h69, h70, hne, h12, hsg8, -⟩ := _root_.id hp
  have hk := hp.kw
  have s6 : y.1 6 = z.1 6 := hsc 6 (by decide) (by decide) (by decide)
  have s11 : y.1 11 = z.1 11 := hsc 11 (by decide) (by decide) (by decide)
  have s16 : y.1 16 = z.1 16 := hsc 16 (by decide) (by decide) (by decide)
  obtain ⟨w1, w2⟩ := h.co.keepW hk
  have hq : zV y (z.1 8) = cutW (ndW (z.2 a) n 0 (z.1 11) (y.1 8)) := by rw [hp.V, if_pos rfl]
  have q59 : zV y (z.1 8) 59 = 0 := by rw [hq]; rfl
  have q60 : zV y (z.1 8) 60 = n := by rw [hq]; rfl
  have q61 : zV y (z.1 8) 61 = z.2 a 61 := by rw [hq]; rfl
  have q62 : zV y (z.1 8) 62 = z.1 11 := by rw [hq]; rfl
  have q63 : zV y (z.1 8) 63 = y.1 8 := by rw [hq]; rfl
  have hnq : ∀ b, b ∈ ch → b ≠ z.1 8 := fun b hb e => by
    have := (h.co.el b hb).1
    rw [e] at this
    omega
  -- one owner
  have own1 : ∀ b, b ∈ ch → zV z b 60 = n → zV z b 61 = z.2 a 61 := fun b hb e => by
    by_cases c : n ≤ 250
    · have := (h.co.el b hb).2.2.2.2.2.2.2.2
      rw [e] at this
      rw [this c, ho3 c]
    · rcases ho4 (by omega) with ⟨g1, g2⟩ | ⟨-, g1, g2⟩
      · have hle := h.co.le n g1
        rcases LE_val (zV z) n ch PP with ⟨v1, v2⟩ | ⟨v1, v2⟩
        · exact absurd e (v2 b hb)
        · rw [← hle] at v1 v2
          rw [h.co.ow b _ hb v1 (by rw [e, v2]), g2]
      · exact absurd e (g2 b hb)
  have own2 : PP n ≠ 0 → zV z (PP n) 61 = z.2 a 61 := fun q => by
    by_cases c : n ≤ 250
    · rw [(h.co.pw n q).2.2.2.2.2.2 c, ho3 c]
    · rcases ho4 (by omega) with ⟨g1, g2⟩ | ⟨-, g1, g2⟩
      · have hle := h.co.le n g1
        rcases LE_val (zV z) n ch PP with ⟨v1, v2⟩ | ⟨v1, v2⟩
        · rw [← v1, ← hle, g2]
        · rw [← hle] at v1 v2
          have := h.co.op _ v1
          rw [v2] at this
          rw [this q, g2]
      · exact absurd g1 q
  have hmem : ∀ b, b ∈ ch ++ [z.1 8] → b ∈ ch ∨ b = z.1 8 := fun b hb => by
    rcases List.mem_append.mp hb with q | q
    · exact Or.inl q
    · exact Or.inr (List.mem_singleton.mp q)
  have hPP : ∀ m, PP m ≠ 0 → PP m ≠ z.1 8 := fun m q e => by
    have := (h.co.pw m q).1
    rw [e] at this
    omega
  have b1 := pkB_le (z.1 11)
  have hK : y.2 7 = z.2 7 := hr 7 (by decide) (by decide) (by decide) (by decide) (by decide) (by decide) (by decide) (by omega)
  have hmv : ∀ b, z.2 5 b ≠ 0 → b ≠ z.1 8 := fun b q e => q (by rw [e]; exact hw0)
  refine ⟨hl, ?_, fun m hm => ?_, hp.wd hl ⟨by omega, by omega⟩ h.wd hn2 (by decide) hs, h.pk.keep hk s6 s11 s16 h12, ⟨?_, fun b hb => ?_, ?_, fun b c hb hc e => ?_, fun b hb q => ?_, fun m q => ?_, fun m q => ?_, fun m g1 g2 q => ?_, fun m hm => ?_⟩, h.rc.keep h.co hk hl s6 ?_ (fun id b k q u e => ⟨k, e⟩) (fun b q u => ?_) (fun b q u => ?_) (fun b q1 q2 => ?_) (fun b q => ?_) h.lg hsg8 (Or.inl (by rw [hsc 9 (by decide) (by decide) (by decide)])) (fun d q => ?_), fun o => by rw [hasM_app, hasM_congr w1, decide_eq_false (fun w => by rw [q59] at w; exact absurd w.1 (by decide)), Bool.or_false]; exact h.hm o⟩
  · rw [h6, h9]
    exact h.tr.node hu0 (by omega) h.lg.u0
  · rw [h6] at hm ⊢
    by_cases c : m = n
    · rw [c, va_up_self]
      exact ⟨hn1, hn2, q60⟩
    · rw [va_up_ne _ _ c] at hm ⊢
      obtain ⟨g1, g2, g3⟩ := h.nu m hm
      refine ⟨g1, g2, ?_⟩
      rw [(hk.1 _ (by rw [(h.p1 hm).1]; decide)).2]
      exact g3
  · rw [s11, hk.2 _ (by omega)]
    have := chn_app (chn_congr w1 h.co.lk)
    rw [q63] at this
    exact this
  · rcases hmem b hb with q | q
    · rw [w1 b q, s6, s11]
      have := h.co.el b q
      exact ⟨hk.one hl this.1, this.2⟩
    · rw [q, q60, q61, q62, s6, s11]
      refine ⟨?_, h69, h70, rfl, ho1, ho2, hn1, hn2, ho3⟩
      rw [h5, va_up_self]
  · rw [List.nodup_append]
    exact ⟨h.co.nd, by simp, fun b hb c hc => by rw [List.mem_singleton.mp hc]; exact hnq b hb⟩
  · rcases hmem b hb with q | q
    · rcases hmem c hc with q' | q'
      · rw [w1 b q, w1 c q'] at *
        exact h.co.ow b c q q' e
      · rw [q', q60, w1 b q] at e
        rw [q', q61, w1 b q]
        exact own1 b q e
    · rcases hmem c hc with q' | q'
      · rw [q, q60, w1 c q'] at e
        rw [q, q61, w1 c q']
        exact (own1 c q' e.symm).symm
      · rw [q, q']
  · rcases hmem b hb with g | g
    · rw [w1 b g] at q ⊢
      rw [w2 _ q]
      exact h.co.op b g q
    · rw [g, q60] at q ⊢
      rw [q61, w2 _ q]
      exact own2 q
  · rw [w2 m q, s6]
    have := h.co.pw m q
    exact ⟨hk.one hl this.1, this.2⟩
  · rw [LE_app, q60, LE_congr w1]
    rw [h6] at q ⊢
    by_cases c : m = n
    · rw [c, va_up_self, va_up_self]
    · rw [va_up_ne _ _ c] at q ⊢
      rw [va_up_ne _ _ c]
      exact h.co.le m q
  · rw [hK] at q
    obtain ⟨v1, v2⟩ := h.co.kp m g1 g2 q
    refine ⟨v1, fun b hb => ?_⟩
    rcases hmem b hb with w | w
    · rw [w1 b w]; exact v2 b w
    · rw [w, q60]
      intro e
      rcases ho4 (by omega) with ⟨x1, x2⟩ | ⟨x1, -, -⟩
      · have hle := h.co.le n x1
        rcases LE_val (zV z) n ch PP with ⟨y1, y2⟩ | ⟨y1, y2⟩
        · rw [y1, e, v1] at hle
          rw [e] at x1
          exact x1 hle
        · exact v2 _ y1 (by rw [y2, e])
      · rw [e] at x1
        exact x1 q
  · rw [hK]; exact h.co.ki m hm
  · unfold rP
    rw [fwd_un (by rw [q59]; decide), fwd_congr w1]
  · rw [h9] at u
    by_cases c : b = z.2 6 n
    · rw [c, va_up_self] at u; exact absurd rfl u
    · rwa [va_up_ne _ _ c, va_up_ne _ _ (hmv b q)] at u
  · rw [h9] at u
    by_cases c : b = z.2 6 n
    · rw [c, va_up_self] at u; omega
    · rwa [va_up_ne _ _ c, va_up_ne _ _ (hmv b q)] at u
  · rcases hmem b q1 with v | v
    · exact absurd v q2
    · rw [v, h9, va_up_ne _ _ (Ne.symm hne), va_up_self]
      exact ⟨by decide, hw0, rfl⟩
  · rcases hmem b q with v | v
    · exact (h.co.el b v).2.1
    · rw [v]; exact h69
  · rw [h9] at q
    left
    by_cases c : d = z.2 6 n
    · rw [c, va_up_self] at q; omega
    · rw [va_up_ne _ _ c] at q
      by_cases c8 : d = z.1 8
      · rw [c8, va_up_self] at q; omega
      · rwa [va_up_ne _ _ c8] at q
