/-! a checkpoint, a cut, a reserve -/
/-- what a file is -/
def FVK (f : FV) : Prop := (f.sz ≤ 100000) ∧ (f.sm ≤ 1) ∧ (f.sm = 1 → f.sz ≤ 96 ∧ ∀ k, k < 412 → f.has k = 0) ∧ (∀ k, k < 412 → f.has k ≤ 1) ∧ (∀ k, k < 412 → f.has k ≠ 0 → 256 * k < f.sz) ∧ (∀ i, f.sz ≤ i → f.byt i = 0) ∧ (∀ i, f.byt i < 256) ∧ (f.sm = 0 → 0 < f.sz) ∧ (f.sm = 0 → ∀ i, i < 105472 → f.has (i / 256) = 0 → f.byt i = 0)
theorem FVK.szb {f : FV} (h9 : FVK f) : f.sz ≤ 100000 := h9.1
theorem FVK.smb {f : FV} (h9 : FVK f) : f.sm ≤ 1 := h9.2.1
theorem FVK.small {f : FV} (h9 : FVK f) : f.sm = 1 → f.sz ≤ 96 ∧ ∀ k, k < 412 → f.has k = 0 := h9.2.2.1
theorem FVK.hb {f : FV} (h9 : FVK f) : ∀ k, k < 412 → f.has k ≤ 1 := h9.2.2.2.1
theorem FVK.lim {f : FV} (h9 : FVK f) : ∀ k, k < 412 → f.has k ≠ 0 → 256 * k < f.sz := h9.2.2.2.2.1
theorem FVK.zer {f : FV} (h9 : FVK f) : ∀ i, f.sz ≤ i → f.byt i = 0 := h9.2.2.2.2.2.1
theorem FVK.byb {f : FV} (h9 : FVK f) : ∀ i, f.byt i < 256 := h9.2.2.2.2.2.2.1
theorem FVK.pos {f : FV} (h9 : FVK f) : f.sm = 0 → 0 < f.sz := h9.2.2.2.2.2.2.2.1
theorem FVK.hz {f : FV} (h9 : FVK f) : f.sm = 0 → ∀ i, i < 105472 → f.has (i / 256) = 0 → f.byt i = 0 := h9.2.2.2.2.2.2.2.2
def TFA (T : TRE) : Prop := (∀ id, T.kd id ≠ 0 → 1 ≤ id ∧ id ≤ 250 ∧ (T.kd id = 1 ∨ T.kd id = 2)) ∧ (∀ d, T.kd d = 2 → nmc (T.ent d) ≤ 48) ∧ (∀ f, T.kd f = 1 → FVK (T.fil f))
theorem TFA.rng {T : TRE} (h9 : TFA T) : ∀ id, T.kd id ≠ 0 → 1 ≤ id ∧ id ≤ 250 ∧ (T.kd id = 1 ∨ T.kd id = 2) := h9.1
theorem TFA.full {T : TRE} (h9 : TFA T) : ∀ d, T.kd d = 2 → nmc (T.ent d) ≤ 48 := h9.2.1
theorem TFA.fv {T : TRE} (h9 : TFA T) : ∀ f, T.kd f = 1 → FVK (T.fil f) := h9.2.2
theorem byI_lt (W : Nat → Nat → Nat) (I bp : Nat → Nat) (i : Nat) : byI W I bp i < 256 := by
  unfold byI byB
  split
  · split
    · exact gb_lt _ _
    · decide
  · split
    · decide
    · exact gb_lt _ _
theorem FOK.fvk {W : Nat → Nat → Nat} {I bp : Nat → Nat} {f : FV} (h : FOK W I bp f) : FVK f := by
  have h01 : ∀ k, k < 412 → (f.has k ≠ 0 ↔ bp k ≠ 0) := fun k hk => by
    rw [h.has k hk]
    by_cases c : bp k = 0
    · rw [if_pos c]; exact ⟨fun w => absurd rfl w, fun w => absurd c w⟩
    · rw [if_neg c]; exact ⟨fun _ => c, fun _ => by decide⟩
  refine ⟨h.szb, h.smb, fun q => ⟨(h.small q).1, fun k hk => ?_⟩, fun k hk => ?_, fun k hk q => h.lim k hk ((h01 k hk).mp q), h.zer, fun i => ?_, h.pos, fun q i hi w => ?_⟩
  · rw [h.has k hk, (h.small q).2 k hk, if_pos rfl]
  · rw [h.has k hk]; split <;> omega
  · by_cases c : i < 105472
    · rw [← h.byt i c]; exact byI_lt _ _ _ _
    · have := h.szb
      rw [h.zer i (by omega)]; decide
  · rw [← h.byt i hi]
    have hb : bp (i / 256) = 0 := Classical.byContradiction (fun v => (h01 _ (by omega)).mpr v w)
    unfold byI
    rw [h.sml, if_neg (by omega)]
    unfold byB
    rw [if_pos hb]
theorem TOK.tfa {W : Nat → Nat → Nat} {P : Nat → Nat} {T : TRE} (h : TOK W P T) : TFA T := by
  refine ⟨h.rng, fun d hd => ?_, fun f hf => ?_⟩
  · obtain ⟨g1, g2, -⟩ := h.rng d (by omega)
    exact nmc_le ((h.ids d g1 g2).dir hd).1
  · obtain ⟨g1, g2, -⟩ := h.rng f (by omega)
    exact ((h.ids f g1 g2).fil hf).1.fvk
/-- no more blocks than are counted -/
theorem ndH_le {h : Nat → Nat} {j b : Nat} (hj : j < 7) (hl : ∀ k, k < 412 → h k ≠ 0 → k < b) : ndH h j ≤ if 20 + 56 * j < b then 1 else 0 := by
  by_cases c : 20 + 56 * j < b
  · rw [if_pos c]
    unfold ndH
    split <;> omega
  · rw [if_neg c]
    unfold ndH
    rw [if_pos (sm_zero (fun i hi => if_pos (Classical.byContradiction (fun w => by
      have := hl _ (by omega) w
      omega))))]
    exact Nat.le_refl _
theorem ndC (b : Nat) : ∀ m, sm (fun j => if 20 + 56 * j < b then 1 else 0) m ≤ m ∧ sm (fun j => if 20 + 56 * j < b then 1 else 0) m ≤ (b - 20 + 55) / 56 := by
  intro m
  induction m with
  | zero => exact ⟨Nat.le_refl _, Nat.zero_le _⟩
  | succ m ih =>
    show sm (fun j => if 20 + 56 * j < b then 1 else 0) m + (if 20 + 56 * m < b then 1 else 0) ≤ m + 1 ∧ sm (fun j => if 20 + 56 * j < b then 1 else 0) m + (if 20 + 56 * m < b then 1 else 0) ≤ (b - 20 + 55) / 56
    by_cases c : 20 + 56 * m < b
    · rw [if_pos c]; omega
    · rw [if_neg c]; omega
theorem au_bl {f : FV} (h : FVK f) : auF f ≤ blF f := by
  unfold auF blF
  by_cases c : f.sm = 1
  · have h0 : ∀ k, k < 412 → f.has k = 0 := (h.small c).2
    have n0 : ∀ j, j < 7 → ndH f.has j = 0 := fun j hj => by
      unfold ndH
      exact if_pos (sm_zero (fun i hi => if_pos (h0 _ (by omega))))
    rw [if_pos c, sm_zero (fun k hk => if_pos (h0 k hk)), sm_zero n0, if_pos (sm_zero (fun j hj => n0 _ (by omega)))]
    exact Nat.le_refl _
  · rw [if_neg c]
    obtain ⟨b, eb⟩ : ∃ b, b = (f.sz + 255) / 256 := ⟨_, rfl⟩
    have hl : ∀ k, k < 412 → f.has k ≠ 0 → k < b := fun k hk q => by
      have := h.lim k hk q
      omega
    have hb : b ≤ 391 := by have := h.szb; omega
    have n : ∀ j, j < 7 → ndH f.has j ≤ if 20 + 56 * j < b then 1 else 0 := fun j hj => ndH_le hj hl
    have s7 := Nat.le_trans (sm_le n) (ndC b 7).2
    rw [← eb]
    unfold nfN
    by_cases d : (b - 20 + 55) / 56 ≤ 2
    · have z5 : sm (fun j => ndH f.has (2 + j)) 5 = 0 := sm_zero (fun j hj => by
        have := n (2 + j) (by omega)
        rw [if_neg (by omega)] at this
        exact Nat.le_zero.mp this)
      rw [if_pos z5]
      by_cases e : b ≤ 20
      · rw [if_pos e]; omega
      · rw [if_neg e, if_pos d]; omega
    · rw [if_neg (show ¬ b ≤ 20 by omega), if_neg d]
      have : (if sm (fun j => ndH f.has (2 + j)) 5 = 0 then 0 else 1) ≤ 1 := by split <;> omega
      omega
theorem au_blT {T : TRE} (h : TFA T) (i : Nat) : auT T i ≤ blT T i := by
  unfold auT blT
  by_cases c2 : T.kd i = 2
  · rw [if_pos c2, if_pos c2]; exact Nat.le_refl _
  · rw [if_neg c2, if_neg c2]
    by_cases c0 : T.kd i = 0
    · rw [if_pos c0, if_pos c0]; exact Nat.le_refl _
    · rw [if_neg c0, if_neg c0]
      have := (h.rng i c0).2.2
      exact au_bl (h.fv i (by omega))
theorem FIC.to {z : NSt} {A B : AB} (h : FIC z A) (e1 : B.tl = A.tl) (e2 : B.ol = A.ol) (e3 : B.tp = A.tp) (e4 : B.tb = A.tb) (e5 : B.dv = A.dv) (e6 : B.ct = A.ct) (e7 : B.fw = A.fw) : FIC z B := by
  refine ⟨?_, ?_, ?_, ?_, ?_, ?_, ?_, ?_, ?_, ?_, ?_, h.wd, h.bs⟩
  · rw [e1]; exact h.s0
  · rw [e2]; exact h.s1
  · rw [e1]; exact h.tl
  · rw [e2]; exact h.ol
  · rw [e3]; exact h.tp
  · rw [e2, e4]; exact h.tb
  · rw [e3]; exact h.tpb
  · rw [e2, e4]; exact h.tbb
  · rw [e5]; exact h.dv
  · rw [e6]; exact h.ct
  · rw [e7]; exact h.fw
theorem ckpW_R (A : AB) (u : Nat) : (A.ckpW u).R = A.T := rfl
theorem ckpW_us (A : AB) (u : Nat) : (A.ckpW u).us = u := rfl
theorem ckpW_fr (A : AB) (u : Nat) : (A.ckpW u).fr = 0 := rfl
theorem ckpW_rm (A : AB) (u : Nat) : (A.ckpW u).rm = A.rm := rfl
theorem ckpW_tk (A : AB) (u : Nat) : (A.ckpW u).tk = A.tk + 1 := rfl
theorem ckpW_T (A : AB) (u : Nat) : (A.ckpW u).T = A.T := rfl
theorem ckp_R (A : AB) : A.ckp.R = A.T := ckpW_R A _
theorem ckp_us (A : AB) : A.ckp.us = inT A.T := ckpW_us A _
theorem ckp_fr (A : AB) : A.ckp.fr = 0 := ckpW_fr A _
theorem ckp_rm (A : AB) : A.ckp.rm = A.rm := ckpW_rm A _
theorem ckp_tk (A : AB) : A.ckp.tk = A.tk + 1 := ckpW_tk A _
theorem ckp_T (A : AB) : A.ckp.T = A.T := ckpW_T A _
theorem FIC.ckpW {z : NSt} {A : AB} (h : FIC z A) (u : Nat) : FIC z (A.ckpW u) := h.to rfl rfl rfl rfl rfl rfl rfl
theorem FIC.ckp {z : NSt} {A : AB} (h : FIC z A) : FIC z A.ckp := h.ckpW _
theorem FIC.fres {z : NSt} {A : AB} (h : FIC z A) (v : Nat) : FIC z (A.w_fr v) := h.to rfl rfl rfl rfl rfl rfl rfl
theorem AI.ckpW {A : AB} {s u : Nat} (h : AI A s) (hT : TFA A.T) (hu : inT A.T ≤ u) : AI (A.ckpW u) 0 := by
  obtain ⟨m, m1, m2, m3⟩ := h.mx
  refine ⟨h.tw, h.tw, fun i q => (by cases q), fun f hf _ => ⟨hf, rfl⟩, h.rb, Or.inr ⟨rfl, rfl⟩, auT A.T, fun i => ⟨Nat.le_refl _, Nat.le_refl _, ?_⟩, ?_, ?_⟩
  · rw [ckpW_R]; exact Nat.le_refl _
  · rw [ckpW_us, ckpW_fr]
    refine Nat.add_le_add_right (Nat.le_trans ?_ hu) 0
    unfold inT
    exact sm_le (fun j _ => au_blT hT _)
  · rw [ckpW_rm]
    have := sm_le (f := fun j => auT A.T (1 + j)) (g := fun j => m (1 + j)) (n := 250) (fun j _ => (m1 _).1)
    omega
theorem AI.ckp {A : AB} {s : Nat} (h : AI A s) (hT : TFA A.T) : AI A.ckp 0 := h.ckpW hT (Nat.le_refl _)
theorem AI.frs {A : AB} (h : AI A 0) {n : Nat} (hn : A.us + A.fr + n ≤ A.rm) : AI (A.w_fr (A.fr + n)) n := by
  obtain ⟨m, m1, m2, m3⟩ := h.mx
  refine ⟨h.tw, h.ow, h.sk, h.fk, h.rb, Or.inl (show A.us + (A.fr + n) ≤ A.rm by omega), m, m1, ?_, ?_⟩
  · show sm (fun j => m (1 + j)) 250 + n ≤ A.us + (A.fr + n)
    omega
  · show sm (fun j => m (1 + j)) 250 + n ≤ A.rm
    omega
theorem AI.off {A : AB} (h : AI A 0) : AI A.off 0 := ⟨h.tw, h.ow, h.sk, h.fk, h.rb, h.ft, h.mx⟩
theorem AI.rsv {A : AB} (h : AI A 0) (hT : TFA A.T) (n : Nat) : (rsvC n A = 0 → AI (rsvB n A) n) ∧ (rsvC n A ≠ 0 → AI (rsvB n A) 0) := by
  unfold rsvC rsvB
  by_cases c1 : A.us + A.fr + n ≤ A.rm
  · rw [if_pos c1, if_pos c1]
    exact ⟨fun _ => h.frs c1, fun q => absurd rfl q⟩
  · rw [if_neg c1, if_neg c1]
    by_cases c2 : A.ct = 1
    · rw [if_pos c2, if_pos c2]
      exact ⟨fun q => absurd q (by decide), fun _ => h.off⟩
    · rw [if_neg c2, if_neg c2]
      by_cases c3 : inT A.T + n ≤ A.rm
      · rw [if_pos c3, if_pos c3]
        refine ⟨fun _ => ?_, fun q => absurd rfl q⟩
        have := (h.ckp hT).frs (n := n) (by rw [ckp_us, ckp_fr, ckp_rm, Nat.add_zero]; exact c3)
        rw [ckp_fr, Nat.zero_add] at this
        exact this
      · rw [if_neg c3, if_neg c3]
        exact ⟨fun q => absurd q (by decide), fun _ => h.ckp hT⟩
theorem rsvB_T (n : Nat) (A : AB) : (rsvB n A).T = A.T := by
  unfold rsvB
  split
  · rfl
  · split
    · rfl
    · split <;> rfl
/-- nodes that are no inodes -/
theorem KC_un {z : NSt} {T R : TRE} {tk : TKS} {PP : Nat → Nat} {ch : List Nat} (h : NW z T R tk PP ch) : sm (fun n => if z.2 6 (251 + n) = 0 then 0 else 1) 1797 ≤ un z := by
  unfold un
  rw [sm_congr (g := fun n => if z.2 6 (251 + n) ≠ 0 then 1 else 0) (fun n _ => if01), sm_congr (f := fun b => if z.2 9 b = 0 then 0 else 1) (g := fun b => if z.2 9 b ≠ 0 then 1 else 0) (fun n _ => if01)]
  refine cnt_le (f := fun n => z.2 6 (251 + n)) (p := fun n => z.2 6 (251 + n) ≠ 0) (q := fun b => z.2 9 b ≠ 0) (fun n _ q => ⟨h.wk.pb _, ?_⟩) (fun n n' _ _ q q' e => ?_)
  · have := (h.wk.tr.2.1 (z.2 6 (251 + n))).mpr ⟨q, _, rfl⟩
    omega
  · have e : z.2 6 (251 + n) = z.2 6 (251 + n') := e
    have a := (h.wk.nu _ q).2.2
    have b := (h.wk.nu _ q').2.2
    rw [e] at a
    omega
theorem inU_lt {z : NSt} (h : ∀ id, smI z id) : inUseN z < 2 ^ 28 := by
  have := sm_bnd (f := fun j => blI z (1 + j)) (n := 250) (c := 100500) (fun j _ => by
    obtain ⟨s0, s1, s3, s4⟩ := h (1 + j)
    unfold blI nfN
    split
    · omega
    · split
      · omega
      · split
        · omega
        · have := s4 (by omega)
          split
          · omega
          · split <;> omega)
  unfold inUseN
  omega
theorem Uz_lo (z : NSt) : 16 * z.1 7 + 2 ≤ Uz z := by
  unfold Uz
  omega
theorem Uz_hi (z : NSt) : Uz z ≤ 16 * z.1 7 + 32 := by
  unfold Uz
  omega
theorem take_c {FU : Nat} (hF : 140000 < FU) {z : NSt} {A : AB} {s : Nat} (hw : LG z ∧ TR (z.2 6) (BPL (zV z) (z.2 6)) (z.2 9) ∧ NUM (zV z) (z.2 6) ∧ WD z) (ht : TOK (zV z) (z.2 6) A.T) (hld : LED (zV z) (z.2 6) A.T) (hold : zV z (pkB (z.1 11)) 0 ≤ z.1 11) (hsu : zV z 0 0 = z.1 6 ∧ zV z 0 1 ≤ zV z 0 0 ∧ z.1 16 = 16 * (zV z 0 0 - zV z 0 1)) (hA : AI A s) (h16 : z.1 16 = A.rm) (h19 : z.1 19 = A.tk) (hrs : A.rm + 384 ≤ 16 * z.1 6) (hse : z.1 11 ≤ 10001 * A.tk) (htk : A.tk ≤ 2000) (hU : 144 ≤ Uz z) :
    Ev (Chk_take FU (up z)) fun r => ∃ y, r = up y ∧ FIN y A.ckp 0 (y.2 6) [] ∧ (∀ k, k ≤ 6 ∨ 20 ≤ k → y.1 k = z.1 k) ∧ (∀ a, a ≤ 3 → y.2 a = z.2 a) ∧ SLK A.T z y := by
  obtain ⟨U, eU⟩ : ∃ U, U = inT A.T := ⟨_, rfl⟩
  have eC : A.ckp = A.ckpW U := by rw [eU]; rfl
  rw [eC]
  obtain ⟨p1, p2, x, px, p3, p4, p5⟩ := pre_take hw ht hld hold hsu (by rw [h19]; omega) (by omega)
  obtain ⟨m, m1, m2, m3⟩ := hA.mx
  have hau : un z ≤ A.rm := by
    have a1 := NW_au px
    have a2 := sm_le (f := fun j => auT A.T (1 + j)) (g := fun j => m (1 + j)) (n := 250) (fun j _ => (m1 _).1)
    omega
  have hkn := KC_un px
  rw [p3, p5] at hkn
  refine (take_s hF hw ht hld hold hsu p1 p2 (inU_lt p1) hU (by rw [h16]; exact hau) (by rw [h16]; exact hrs) (by omega) (by rw [h19]; omega)).mono ?_
  rintro _ ⟨y, rfl, y1, y2, y3, y4, y5, y6, y7, y8, y9, y10, y11, y12⟩
  have e16 : y.1 16 = A.rm := by rw [y7 16 (by omega), h16]
  have eus : y.1 17 = U := by rw [y5, ← p4, px.inU, eU]
  have hkc : KC y ≤ un z := by
    refine Nat.le_trans (Nat.le_of_eq ?_) hkn
    unfold KC
    refine sm_congr (fun n hn => ?_)
    have := y10 (251 + n) (by omega)
    by_cases c : z.2 6 (251 + n) = 0
    · rw [if_pos c, if_pos (this.mpr c)]
    · rw [if_neg c, if_neg (fun w => c (this.mp w))]
  refine ⟨y, rfl, ⟨?_, fun n n1 n2 => (y1.tok.ids n n1 n2).pl, fun f hf => ?_, e16, eus, y6, ?_, ?_, ⟨?_, ?_⟩, ?_, ?_, ?_⟩, fun k hk => y7 k (by omega), y8, y12⟩
  · rw [ckpW_R]
    show NW y A.T A.T (A.tk + 1, fun _ => false) (y.2 6) []
    rw [← h19]
    exact y1
  · have h2 := (y1.tok.rng f (by have : A.T.kd f = 1 := hf; omega)).2.1
    rw [y9 f h2]
    rfl
  · rw [y4, h19]; rfl
  · rw [ckpW_rm, ckpW_us, ckpW_fr]
    have := Uz_lo y
    unfold mbf at y3
    rw [e16, eus, y6] at y3
    omega
  · rw [ckpW_us, ckpW_fr, eU, ← px.inU, p4]
    omega
  · rw [ckpW_rm]
    omega
  · rw [ckpW_tk]
    omega
  · rw [ckpW_rm, y7 6 (by omega)]
    exact hrs
  · rw [ckpW_us, ← eus, y5]
    exact inU_lt p1
theorem FIC.frame {z y : NSt} {A : AB} (h : FIC z A) (h1 : ∀ k, k ≤ 4 → y.1 k = z.1 k) (h2 : ∀ a, a ≤ 1 → y.2 a = z.2 a) (hw : WD y ∧ BS y ∧ ∀ n, 2048 ≤ n → y.2 6 n = 0) : FIC y A := by
  refine ⟨by rw [h1 0 (by decide)]; exact h.s0, by rw [h1 1 (by decide)]; exact h.s1, h.tl, h.ol, fun i hi => by rw [h2 0 (by decide)]; exact h.tp i hi, fun i hi => by rw [h2 1 (by decide)]; exact h.tb i hi, h.tpb, h.tbb, by rw [h1 2 (by decide)]; exact h.dv, ?_, by rw [h1 4 (by decide)]; exact h.fw, hw.1, hw.2⟩
  rw [h1 3 (by decide)]
  exact h.ct
theorem NW.raw {z : NSt} {T R : TRE} {tk : TKS} {PP : Nat → Nat} {ch : List Nat} (h : NW z T R tk PP ch) : (LG z ∧ TR (z.2 6) (BPL (zV z) (z.2 6)) (z.2 9) ∧ NUM (zV z) (z.2 6) ∧ WD z) ∧ zV z (pkB (z.1 11)) 0 ≤ z.1 11 ∧ (zV z 0 0 = z.1 6 ∧ zV z 0 1 ≤ zV z 0 0 ∧ z.1 16 = 16 * (zV z 0 0 - zV z 0 1)) :=
  ⟨⟨h.wk.lg, h.wk.tr, h.wk.nu, h.wk.wd⟩, Nat.le_of_eq h.wk.pk.h0, h.wk.pk.su⟩
/-- a checkpoint between calls -/
theorem ckpt_s {FU : Nat} (hF : 140000 < FU) {z : NSt} {A : AB} {PP : Nat → Nat} {ch : List Nat} {s : Nat} (hc : FIC z A) (h : FIN z A s PP ch) (hA : AI A s) (htk : A.tk ≤ 2000) :
    Ev (Chk_take FU (up z)) fun r => ∃ y, r = up y ∧ FIC y A.ckp ∧ FIN y A.ckp 0 (y.2 6) [] ∧ (∀ a, a ≤ 3 → y.2 a = z.2 a) ∧ SLK A.T z y := by
  obtain ⟨r1, r2, r3⟩ := h.nw.raw
  have hu := h.uz
  refine (take_c hF r1 h.nw.tok h.nw.led r2 r3 hA h.s16 h.s19 h.rs h.se htk (by omega)).mono ?_
  rintro _ ⟨y, rfl, y1, y2, y3, y4⟩
  exact ⟨y, rfl, (hc.frame (fun k hk => y2 k (by omega)) (fun a ha => y3 a (by omega)) y1.nw.fic).ckp, y1, y3, y4⟩
/-- the power fails at a commit -/
theorem offPrt {FU : Nat} (hF : 140000 < FU) {z x : NSt} {A : AB} {PP : Nat → Nat} {ch : List Nat} {s : Nat} (hc : FIC x A) (h : FIN x A s PP ch) (hp : PRT z x) :
    Ev (FF_losePower FU (up z)) fun r => ∃ y, r = up y ∧ FI y A.off ∧ (∀ a, a ≤ 3 → y.2 a = x.2 a) := by
  refine (losePower_s hF h.nw hp).mono ?_
  rintro _ ⟨y, rfl, y1, y2, y3, y4, y5⟩
  have hu := h.uz
  have hu2 := Uz_hi x
  have e : ∀ a, a ≤ 3 → y.2 a = x.2 a := fun a ha => by rw [y5 a ha, hp.a a (by omega) (by omega) (by omega)]
  have e1 : ∀ k, k ≤ 1 ∨ k = 4 → y.1 k = x.1 k := fun k hk => by rw [y4 k (by omega), hp.s]
  refine ⟨y, rfl, ⟨⟨?_, ?_, hc.tl, hc.ol, fun i hi => ?_, fun i hi => ?_, hc.tpb, hc.tbb, y2, Or.inl ⟨rfl, y3⟩, ?_, y1.wd, ⟨y1.lw, fun b _ => y1.t9 b, fun b _ => y1.t12 b⟩, fun n _ => y1.t6 n⟩, Or.inr (Or.inl ⟨rfl, x, PP, ch, y1, h.se, h.rs, by omega, h.s16⟩)⟩, e⟩
  · rw [e1 0 (by omega)]; exact hc.s0
  · rw [e1 1 (by omega)]; exact hc.s1
  · rw [e 0 (by decide)]; exact hc.tp i hi
  · rw [e 1 (by decide)]; exact hc.tb i hi
  · rw [e1 4 (by omega)]; exact hc.fw
theorem failAtCut_s {FU : Nat} (hF : 140000 < FU) {z : NSt} {A : AB} {PP : Nat → Nat} {ch : List Nat} {s : Nat} (hc : FIC z A) (h : FIN z A s PP ch) (htk : A.tk ≤ 2000) {p : Nat} (hp : p ≤ 1) :
    Ev (FF_failAtCut FU (nI p) (up z)) fun r => (A.ct ≠ 1 ∧ r = (0, 0, up z)) ∨ (A.ct = 1 ∧ ∃ y, r = (3, 0, up y) ∧ FI y A.off ∧ (∀ a, a ≤ 3 → y.2 a = z.2 a)) := by
  have hse := h.se
  unfold FF_failAtCut
  rw [up1]
  rcases hc.ct with ⟨c, e⟩ | ⟨c, e⟩
  · rw [e, if_pos (show nI 4294967295 = (-1 : Int32) from rfl)]
    exact Ev.ret (Or.inl ⟨by omega, rfl⟩)
  · rw [if_neg (fun w : nI (z.1 3) = (-1 : Int32) => by
      have := (nI_inj (a := z.1 3) (b := 4294967295) (by omega) (by decide)).mp w
      omega)]
    by_cases c0 : p = 0
    · rw [c0, if_pos i00]
      unfold FF_failAtCut_b24
      refine (offPrt hF hc h h.nw.wk.prt).bd ?_
      rintro _ ⟨y, rfl, y1, y2⟩
      exact Ev.ret (Or.inr ⟨c, y, rfl, y1, y2⟩)
    · rw [if_neg (fun w : nI p = (0 : Int32) => c0 ((nI_inj (b := 0) (by omega) (by decide)).mp w))]
      refine (storePart_s hF h.nw.wk (by omega) (by rw [h.s19]; omega) e).bd ?_
      rintro _ ⟨x, rfl, x1⟩
      unfold FF_failAtCut_b24
      refine (offPrt hF hc h x1).bd ?_
      rintro _ ⟨y, rfl, y1, y2⟩
      exact Ev.ret (Or.inr ⟨c, y, rfl, y1, y2⟩)
theorem fits_z (FU : Nat) {z : NSt} {n : Nat} (h16 : z.1 16 < 2 ^ 28) (h17 : z.1 17 < 2 ^ 28) (h18 : z.1 18 < 2 ^ 28) (hn : n < 2 ^ 28) : Chk_fits FU (nI n) (up z) = some (nI (if z.1 17 + z.1 18 + n ≤ z.1 16 then 1 else 0)) := by
  unfold Chk_fits
  rw [up1, up1, up1, nI_add, nI_add]
  by_cases c : z.1 17 + z.1 18 + n ≤ z.1 16
  · rw [if_neg (fun w => nI_ge (Nat.lt_succ_of_le c) (by omega) (by rw [nI_ltI (by omega) (by omega)] at w; omega)), if_pos c]; rfl
  · rw [if_pos (nI_lt (by omega) (by omega)), if_neg c]; rfl
theorem FIN.fresh {z : NSt} {A : AB} {PP : Nat → Nat} {ch : List Nat} (h : FIN z A 0 PP ch) {n : Nat} (hn : A.us + A.fr + n ≤ A.rm) : FIN (zI z 18 (A.fr + n)) (A.w_fr (A.fr + n)) n PP ch := by
  have e1 : ∀ k, k ≠ 18 → (zI z 18 (A.fr + n)).1 k = z.1 k := fun k hk => by rw [zI1, if_neg hk]
  have hz : Uz (zI z 18 (A.fr + n)) = Uz z := Uz_frame (fun k _ _ => e1 k (by omega))
  have hk : KC (zI z 18 (A.fr + n)) = KC z := KC_rows (fun a _ => rfl)
  have hu := h.uz
  have hkc := h.kc
  refine ⟨h.nw.rows (fun k _ _ => e1 k (by omega)) (fun a _ => rfl) h.nw.wk.wd, h.pi, h.st, ?_, ?_, by rw [zI1, if_pos rfl]; rfl, ?_, ?_, ⟨?_, ?_⟩, ?_, ?_, h.u28⟩
  · rw [e1 16 (by decide)]; exact h.s16
  · rw [e1 17 (by decide)]; exact h.s17
  · rw [e1 19 (by decide)]; exact h.s19
  · show A.rm - A.us - (A.fr + n) + 162 + n ≤ Uz (zI z 18 (A.fr + n))
    omega
  · show KC (zI z 18 (A.fr + n)) + n ≤ A.us + (A.fr + n)
    omega
  · show KC (zI z 18 (A.fr + n)) + n ≤ A.rm
    omega
  · rw [e1 11 (by decide)]; exact h.se
  · rw [e1 6 (by decide)]; exact h.rs
theorem FIC_zI {z : NSt} {A : AB} (h : FIC z A) {k v : Nat} (hk : 5 ≤ k) : FIC (zI z k v) A :=
  h.frame (fun j hj => by rw [zI1, if_neg (by omega)]) (fun a _ => rfl) ⟨h.wd, h.bs⟩
theorem inT_lt {z : NSt} {T R : TRE} {tk : TKS} {PP : Nat → Nat} {ch : List Nat} (h : NW z T R tk PP ch) : inT T < 2 ^ 28 := by
  rw [← h.inU]
  exact inU_lt h.sm
theorem FIN.us_lt {z : NSt} {A : AB} {PP : Nat → Nat} {ch : List Nat} (h : FIN z A 0 PP ch) (hA : AI A 0) : A.fr < 2 ^ 28 := by
  have hu := h.u28
  have := hA.rb
  rcases hA.ft with q | q
  · omega
  · omega
/-- room is made sure of -/
theorem reserve_s {FU : Nat} (hF : 140000 < FU) {z : NSt} {A : AB} {PP : Nat → Nat} {ch : List Nat} (hc : FIC z A) (h : FIN z A 0 PP ch) (hA : AI A 0) (hdv : A.dv = 2) (htk : A.tk ≤ 2000) {n : Nat} (hn : n ≤ 1000) :
    Ev (FF_reserve FU (nI n) (up z)) fun r => ∃ y, r = (rsvC n A, 0, up y) ∧ (rsvC n A = 0 → FIC y (rsvB n A) ∧ (rsvB n A).dv = 2 ∧ (∃ PP ch, FIN y (rsvB n A) n PP ch) ∧ SLK A.T z y) ∧ (rsvC n A ≠ 0 → FI y (rsvB n A)) ∧ (∀ a, a ≤ 3 → y.2 a = z.2 a) := by
  have hrb := hA.rb
  have hfr := h.us_lt hA
  have hus := h.u28
  have e16 := h.s16
  have e17 := h.s17
  have e18 := h.s18
  unfold FF_reserve
  rw [fits_z FU (by omega) (by omega) (by omega) (by omega), Option.bind_some, e16, e17, e18]
  unfold rsvC rsvB
  by_cases c1 : A.us + A.fr + n ≤ A.rm
  · rw [if_pos c1, if_pos c1, if_pos c1, if_neg (by decide)]
    unfold FF_reserve_b45 Chk_addFresh
    rw [nx_eq, up1, nI_add, up_I, Option.bind_some, e18]
    exact Ev.ret ⟨_, rfl, fun _ => ⟨(FIC_zI hc (by decide)).fres _, hdv, ⟨PP, ch, h.fresh c1⟩, SLK.rf _ _⟩, fun q => absurd rfl q, fun a _ => rfl⟩
  · rw [if_neg c1, if_neg c1, if_neg c1, if_pos i00]
    refine (failAtCut_s hF hc h htk (p := 1) (Nat.le_refl _)).bd ?_
    rintro r (⟨k0, rfl⟩ | ⟨k1, y, rfl, y1, y2⟩)
    · rw [if_neg k0, if_neg k0, if_pos rfl]
      refine (ckpt_s hF hc h hA htk).bd ?_
      rintro _ ⟨y, rfl, y1, y2, y3, y4⟩
      have f16 := y2.s16
      have f17 : y.1 17 = inT A.T := by rw [← ckp_us]; exact y2.s17
      have f18 : y.1 18 = 0 := y2.s18
      have hi := inT_lt h.nw
      have f16 : y.1 16 = A.rm := f16
      rw [fits_z FU (by omega) (by omega) (by omega) (by omega), Option.bind_some, f16, f17, f18, Nat.add_zero]
      by_cases c3 : inT A.T + n ≤ A.rm
      · rw [if_pos c3, if_pos c3, if_pos c3, if_neg (by decide)]
        unfold FF_reserve_b45 Chk_addFresh
        rw [nx_eq, up1, nI_add, up_I, Option.bind_some, f18, Nat.zero_add]
        have := y2.fresh (n := n) (by rw [ckp_us, ckp_fr, ckp_rm, Nat.add_zero]; exact c3)
        rw [ckp_fr, Nat.zero_add] at this
        exact Ev.ret ⟨_, rfl, fun _ => ⟨(FIC_zI y1 (by decide)).fres _, hdv, ⟨_, _, this⟩, y4⟩, fun q => absurd rfl q, y3⟩
      · rw [if_neg c3, if_neg c3, if_neg c3, if_pos i00]
        exact Ev.ret ⟨y, rfl, fun q => absurd q (by decide), fun _ => ⟨y1, Or.inr (Or.inr ⟨hdv, _, _, y2⟩)⟩, y3⟩
    · rw [if_pos k1, if_pos k1, if_neg (show ¬ (3 : Nat) = 0 by decide)]
      exact Ev.ret ⟨y, rfl, fun q => absurd q (by decide), fun _ => y1, y2⟩
