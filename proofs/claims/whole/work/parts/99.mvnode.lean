/-! moveNode as a whole -/
def mvn (z : NSt) (n : Nat) : Nat := sm (fun i => if vic z (RR (zV z) (z.2 6) n i) then 1 else 0) 56
def chN (z : NSt) (n : Nat) : Nat := if vic z (z.2 6 n) ∨ 0 < mvn z n then 1 else 0
theorem vic0 (z : NSt) : ¬ vic z 0 := fun q => by have := q.1; omega
theorem mvn_0 {z : NSt} {n : Nat} (h : z.2 6 n = 0) : mvn z n = 0 ∧ chN z n = 0 := by
  have e : mvn z n = 0 := sm_zero (fun i _ => by
    unfold RR
    rw [if_pos h, if_neg (vic0 z)])
  refine ⟨e, ?_⟩
  unfold chN
  rw [h, e, if_neg (fun q => q.elim (vic0 z) (fun w => by omega))]
theorem RR_crd {z : NSt} {T : TRE} {n id base fr hi : Nat} (hn : z.2 6 n ≠ 0) (hc : CRD z T n id base fr hi) (h1 : fr = pFr (zV z (z.2 6 n) 58)) (h2 : hi = fr + pNo (zV z (z.2 6 n) 58) (zV z (z.2 6 n) 0)) (i : Nat) : RR (zV z) (z.2 6) n i = if fr ≤ i ∧ i < hi then BPL (zV z) (z.2 6) id (base + (i - fr)) else 0 := by
  obtain ⟨-, -, -, -, -, c3, -⟩ := hc
  unfold RR ptw
  rw [if_neg hn, ← h1, ← h2]
  by_cases c : fr ≤ i ∧ i < hi
  · rw [if_pos c, if_pos c, c3 i c.1 c.2]
  · rw [if_neg c, if_neg c]
theorem mvn_c {z : NSt} {T : TRE} {n id base fr hi : Nat} (hn : z.2 6 n ≠ 0) (hc : CRD z T n id base fr hi) (h1 : fr = pFr (zV z (z.2 6 n) 58)) (h2 : hi = fr + pNo (zV z (z.2 6 n) 58) (zV z (z.2 6 n) 0)) : mvn z n = mvc z id base (hi - fr) := by
  have hR := RR_crd hn hc h1 h2
  have c1 := hc.2.2.2.1
  have c2 := hc.2.2.2.2.1
  unfold mvn mvc
  rw [show (56 : Nat) = fr + ((hi - fr) + (56 - hi)) by omega, sm_cut, sm_cut]
  have e1 : sm (fun i => if vic z (RR (zV z) (z.2 6) n i) then 1 else 0) fr = 0 := sm_zero (fun i hi' => by
    rw [hR i, if_neg (show ¬ (fr ≤ i ∧ i < hi) by omega), if_neg (vic0 z)])
  have e3 : sm (fun i => if vic z (RR (zV z) (z.2 6) n (fr + (hi - fr + i))) then 1 else 0) (56 - hi) = 0 := sm_zero (fun i hi' => by
    rw [hR _, if_neg (show ¬ (fr ≤ fr + (hi - fr + i) ∧ fr + (hi - fr + i) < hi) by omega), if_neg (vic0 z)])
  have e2 : sm (fun i => if vic z (RR (zV z) (z.2 6) n (fr + i)) then 1 else 0) (hi - fr) = sm (fun j => if vic z (BPL (zV z) (z.2 6) id (base + j)) then 1 else 0) (hi - fr) := sm_congr (fun i hi' => by
    rw [hR _, if_pos (show fr ≤ fr + i ∧ fr + i < hi by omega), show fr + i - fr = i by omega])
  rw [e1, e3, e2]
  omega
def MVN (z y : NSt) (T R : TRE) (tk : TKS) (PP : Nat → Nat) (ch : List Nat) (n : Nat) : Prop := (NW y T R tk PP ch) ∧ (FR z y) ∧ (y.2 7 = z.2 7) ∧ (y.2 8 = z.2 8) ∧ (y.2 19 = z.2 19) ∧ (Uz y + mvn z n + chN z n = Uz z) ∧ (∀ m, m ≠ n → y.2 6 m = z.2 6 m) ∧ (KW z y) ∧ (y.2 6 n = 0 ↔ z.2 6 n = 0) ∧ (¬ vic z (y.2 6 n)) ∧ (∀ i, ¬ vic z (RR (zV y) (y.2 6) n i)) ∧ (∀ b, z.2 5 b ≠ 0 → y.2 9 b ≠ z.2 9 b → y.2 9 b = 0 ∧ (vic z b ∨ (b = z.2 6 n ∧ 0 < mvn z n))) ∧ (∀ b, z.2 5 b = 0 → y.2 5 b ≠ 0 → y.2 9 b ≠ 0 ∧ ¬ vic z b) ∧ (∀ s, y.2 12 s ≠ 0 → z.2 12 s ≠ 0) ∧ (z.2 19 (sg (y.1 8)) = 0) ∧ (z.2 19 (sg (y.1 9)) = 0) ∧ (un y = un z) ∧ (AVK z y) ∧ (∀ b, z.2 5 b = 0 → y.2 9 b = 1 → sg b = sg (z.1 8) ∨ z.2 12 (sg b) ≠ 0) ∧ (∀ b, z.2 5 b = 0 → y.2 9 b = 2 → sg b = sg (z.1 9) ∨ z.2 12 (sg b) ≠ 0) ∧ (sg (y.1 8) = sg (z.1 8) ∨ z.2 12 (sg (y.1 8)) ≠ 0) ∧ (sg (y.1 9) = sg (z.1 9) ∨ z.2 12 (sg (y.1 9)) ≠ 0) ∧ (SLK T z y)
theorem MVN.nw {z y : NSt} {T R : TRE} {tk : TKS} {PP : Nat → Nat} {ch : List Nat} {n : Nat} (h9 : MVN z y T R tk PP ch n) : NW y T R tk PP ch := h9.1
theorem MVN.fr {z y : NSt} {T R : TRE} {tk : TKS} {PP : Nat → Nat} {ch : List Nat} {n : Nat} (h9 : MVN z y T R tk PP ch n) : FR z y := h9.2.1
theorem MVN.a7 {z y : NSt} {T R : TRE} {tk : TKS} {PP : Nat → Nat} {ch : List Nat} {n : Nat} (h9 : MVN z y T R tk PP ch n) : y.2 7 = z.2 7 := h9.2.2.1
theorem MVN.a8 {z y : NSt} {T R : TRE} {tk : TKS} {PP : Nat → Nat} {ch : List Nat} {n : Nat} (h9 : MVN z y T R tk PP ch n) : y.2 8 = z.2 8 := h9.2.2.2.1
theorem MVN.a19 {z y : NSt} {T R : TRE} {tk : TKS} {PP : Nat → Nat} {ch : List Nat} {n : Nat} (h9 : MVN z y T R tk PP ch n) : y.2 19 = z.2 19 := h9.2.2.2.2.1
theorem MVN.uz {z y : NSt} {T R : TRE} {tk : TKS} {PP : Nat → Nat} {ch : List Nat} {n : Nat} (h9 : MVN z y T R tk PP ch n) : Uz y + mvn z n + chN z n = Uz z := h9.2.2.2.2.2.1
theorem MVN.p' {z y : NSt} {T R : TRE} {tk : TKS} {PP : Nat → Nat} {ch : List Nat} {n : Nat} (h9 : MVN z y T R tk PP ch n) : ∀ m, m ≠ n → y.2 6 m = z.2 6 m := h9.2.2.2.2.2.2.1
theorem MVN.kw {z y : NSt} {T R : TRE} {tk : TKS} {PP : Nat → Nat} {ch : List Nat} {n : Nat} (h9 : MVN z y T R tk PP ch n) : KW z y := h9.2.2.2.2.2.2.2.1
theorem MVN.pn {z y : NSt} {T R : TRE} {tk : TKS} {PP : Nat → Nat} {ch : List Nat} {n : Nat} (h9 : MVN z y T R tk PP ch n) : y.2 6 n = 0 ↔ z.2 6 n = 0 := h9.2.2.2.2.2.2.2.2.1
theorem MVN.vn {z y : NSt} {T R : TRE} {tk : TKS} {PP : Nat → Nat} {ch : List Nat} {n : Nat} (h9 : MVN z y T R tk PP ch n) : ¬ vic z (y.2 6 n) := h9.2.2.2.2.2.2.2.2.2.1
theorem MVN.vr {z y : NSt} {T R : TRE} {tk : TKS} {PP : Nat → Nat} {ch : List Nat} {n : Nat} (h9 : MVN z y T R tk PP ch n) : ∀ i, ¬ vic z (RR (zV y) (y.2 6) n i) := h9.2.2.2.2.2.2.2.2.2.2.1
theorem MVN.u0 {z y : NSt} {T R : TRE} {tk : TKS} {PP : Nat → Nat} {ch : List Nat} {n : Nat} (h9 : MVN z y T R tk PP ch n) : ∀ b, z.2 5 b ≠ 0 → y.2 9 b ≠ z.2 9 b → y.2 9 b = 0 ∧ (vic z b ∨ (b = z.2 6 n ∧ 0 < mvn z n)) := h9.2.2.2.2.2.2.2.2.2.2.2.1
theorem MVN.u1 {z y : NSt} {T R : TRE} {tk : TKS} {PP : Nat → Nat} {ch : List Nat} {n : Nat} (h9 : MVN z y T R tk PP ch n) : ∀ b, z.2 5 b = 0 → y.2 5 b ≠ 0 → y.2 9 b ≠ 0 ∧ ¬ vic z b := h9.2.2.2.2.2.2.2.2.2.2.2.2.1
theorem MVN.fz {z y : NSt} {T R : TRE} {tk : TKS} {PP : Nat → Nat} {ch : List Nat} {n : Nat} (h9 : MVN z y T R tk PP ch n) : ∀ s, y.2 12 s ≠ 0 → z.2 12 s ≠ 0 := h9.2.2.2.2.2.2.2.2.2.2.2.2.2.1
theorem MVN.e8 {z y : NSt} {T R : TRE} {tk : TKS} {PP : Nat → Nat} {ch : List Nat} {n : Nat} (h9 : MVN z y T R tk PP ch n) : z.2 19 (sg (y.1 8)) = 0 := h9.2.2.2.2.2.2.2.2.2.2.2.2.2.2.1
theorem MVN.e9 {z y : NSt} {T R : TRE} {tk : TKS} {PP : Nat → Nat} {ch : List Nat} {n : Nat} (h9 : MVN z y T R tk PP ch n) : z.2 19 (sg (y.1 9)) = 0 := h9.2.2.2.2.2.2.2.2.2.2.2.2.2.2.2.1
theorem MVN.un' {z y : NSt} {T R : TRE} {tk : TKS} {PP : Nat → Nat} {ch : List Nat} {n : Nat} (h9 : MVN z y T R tk PP ch n) : un y = un z := h9.2.2.2.2.2.2.2.2.2.2.2.2.2.2.2.2.1
theorem MVN.av {z y : NSt} {T R : TRE} {tk : TKS} {PP : Nat → Nat} {ch : List Nat} {n : Nat} (h9 : MVN z y T R tk PP ch n) : AVK z y := h9.2.2.2.2.2.2.2.2.2.2.2.2.2.2.2.2.2.1
theorem MVN.w1 {z y : NSt} {T R : TRE} {tk : TKS} {PP : Nat → Nat} {ch : List Nat} {n : Nat} (h9 : MVN z y T R tk PP ch n) : ∀ b, z.2 5 b = 0 → y.2 9 b = 1 → sg b = sg (z.1 8) ∨ z.2 12 (sg b) ≠ 0 := h9.2.2.2.2.2.2.2.2.2.2.2.2.2.2.2.2.2.2.1
theorem MVN.w2 {z y : NSt} {T R : TRE} {tk : TKS} {PP : Nat → Nat} {ch : List Nat} {n : Nat} (h9 : MVN z y T R tk PP ch n) : ∀ b, z.2 5 b = 0 → y.2 9 b = 2 → sg b = sg (z.1 9) ∨ z.2 12 (sg b) ≠ 0 := h9.2.2.2.2.2.2.2.2.2.2.2.2.2.2.2.2.2.2.2.1
theorem MVN.es8 {z y : NSt} {T R : TRE} {tk : TKS} {PP : Nat → Nat} {ch : List Nat} {n : Nat} (h9 : MVN z y T R tk PP ch n) : sg (y.1 8) = sg (z.1 8) ∨ z.2 12 (sg (y.1 8)) ≠ 0 := h9.2.2.2.2.2.2.2.2.2.2.2.2.2.2.2.2.2.2.2.2.1
theorem MVN.es9 {z y : NSt} {T R : TRE} {tk : TKS} {PP : Nat → Nat} {ch : List Nat} {n : Nat} (h9 : MVN z y T R tk PP ch n) : sg (y.1 9) = sg (z.1 9) ∨ z.2 12 (sg (y.1 9)) ≠ 0 := h9.2.2.2.2.2.2.2.2.2.2.2.2.2.2.2.2.2.2.2.2.2.1
theorem MVN.sl {z y : NSt} {T R : TRE} {tk : TKS} {PP : Nat → Nat} {ch : List Nat} {n : Nat} (h9 : MVN z y T R tk PP ch n) : SLK T z y := h9.2.2.2.2.2.2.2.2.2.2.2.2.2.2.2.2.2.2.2.2.2.2
theorem moveNode_s {FU : Nat} (hF : 140000 < FU) {z : NSt} {T R : TRE} {tk : TKS} {PP : Nat → Nat} {ch : List Nat} (h : NW z T R tk PP ch) (hv1 : ∀ s, s < 128 → z.2 19 s ≤ 1) (hvf : ∀ s, z.2 12 s ≠ 0 → z.2 19 s = 0) (he8 : z.2 19 (sg (z.1 8)) = 0) (he9 : z.2 19 (sg (z.1 9)) = 0) (hse : z.1 11 < 2 ^ 32) {n : Nat} (n1 : 1 ≤ n) (n2 : n < 2048) (hU : 33 + mvn z n ≤ Uz z) :
    Ev (Cle_moveNode FU (nI n) (up z)) fun r => ∃ y ch', r = up y ∧ MVN z y T R tk PP ch' n := by
  unfold Cle_moveNode
  rw [Tab_placeOf_z FU z (by omega), Option.bind_some, plZ_in n1 n2]
  by_cases c : z.2 6 n = 0
  · rw [c, if_pos i00]
    obtain ⟨e1, e2⟩ := mvn_0 c
    refine Ev.ret ⟨z, ch, rfl, h, FR.rf z, rfl, rfl, rfl, by omega, fun _ _ => rfl, KW.rf z, Iff.rfl, by rw [c]; exact vic0 z, fun i => ?_, fun b _ q => absurd rfl q, fun b q1 q2 => absurd q1 q2, fun _ q => q, he8, he9, rfl, AVK.rf z, fun b q1 q2 => absurd q2 (by rw [h.wk.lg.unused q1]; decide), fun b q1 q2 => absurd q2 (by rw [h.wk.lg.unused q1]; decide), Or.inl rfl, Or.inl rfl, SLK.rf T z⟩
    unfold RR
    rw [if_pos c]
    exact vic0 z
  · have hpb := h.wk.pb n
    obtain ⟨id, base, fr, hi, hc, hfr, hhi, hlv, h0⟩ := crd_ex h c
    have hmv := mvn_c c hc hfr hhi
    have hRz := RR_crd c hc hfr hhi
    obtain ⟨i1, i2, ik, c1, c2, c3, c61, cc⟩ := _root_.id hc
    rw [if_neg (ne0_I (by omega) c), mustLeave_z FU hpb hv1, Option.bind_some, show (58 : Int32) = nI 58 from rfl, Dev_word_e FU z hpb (by decide), Option.bind_some, ← zV_W (by decide)]
    have e1 : FF_pointersFrom FU (nI (zV z (z.2 6 n) 58)) (up z) = some (nI fr) := by
      rw [hfr]
      unfold FF_pointersFrom pFr
      by_cases d : zV z (z.2 6 n) 58 = 0
      · rw [if_pos d, d, if_pos i00]; rfl
      · rw [if_neg d, if_neg (ne0_I (by omega) d)]; rfl
    have e2 : FF_pointersIn FU (nI (zV z (z.2 6 n) 58)) (nI (zV z (z.2 6 n) 0)) (up z) = some (nI (hi - fr)) := by
      rw [show hi - fr = pNo (zV z (z.2 6 n) 58) (zV z (z.2 6 n) 0) by omega]
      unfold FF_pointersIn pNo
      by_cases d : zV z (z.2 6 n) 58 = 0
      · rw [if_pos d, d, if_pos i00]
        by_cases d2 : zV z (z.2 6 n) 0 = 2
        · rw [if_pos d2, d2, if_pos (by decide)]; rfl
        · rw [if_neg d2, if_neg (show ¬ nI (zV z (z.2 6 n) 0) = (2 : Int32) from fun q => d2 ((nI_inj h0 (by decide)).mp q))]; rfl
      · rw [if_neg d, if_neg (ne0_I (by omega) d)]
        by_cases d2 : zV z (z.2 6 n) 58 = 1
        · rw [if_pos d2, d2, if_pos i11]; rfl
        · have d3 : zV z (z.2 6 n) 58 = 2 := by omega
          rw [if_neg d2, d3, if_neg (by decide)]; rfl
    rw [e1, Option.bind_some, show (0 : Int32) = nI 0 from rfl, Dev_word_e FU z hpb (by decide), Option.bind_some, ← zV_W (by decide), e2, Option.bind_some, Dev_load_g FU z 20 hpb (by decide), Option.bind_some, nI_add, show fr + (hi - fr) = hi by omega]
    obtain ⟨x0, ex0⟩ : ∃ x0, x0 = ldZ z 20 (z.2 6 n) := ⟨_, rfl⟩
    rw [← ex0]
    have x0a : ∀ c, c ≠ 20 → x0.2 c = z.2 c := fun c hc' => by rw [ex0, ld_b hc']
    have x01 : x0.1 = z.1 := by rw [ex0]; rfl
    have wx0 : WK x0 (va_up (BPL (zV z) (z.2 6)) id (BPL (zV z) (z.2 6) id)) R tk PP ch := by rw [up_id, ex0]; exact h.wk.load _ (by decide)
    have hst : MVL z x0 R tk PP ch n id base fr fr (BPL (zV z) (z.2 6) id) := by
      refine ⟨wx0, KW.of4 (x0a 4 (by decide)) (x0a 5 (by decide)), fun c _ _ _ _ _ _ c20 _ => x0a c c20, fun k _ _ _ => by rw [x01], fun _ _ => rfl, fun k k1 k2 => by omega, fun j hj => ?_, fun b _ q => ?_, fun b q1 q2 => ?_, ?_, fun s hs => by rwa [x0a 12 (by decide)] at hs, by rw [x01]; exact he9, un_congr (x0a 9 (by decide)), AVK.same (x0a 12 (by decide)) (by rw [x01]) (by rw [x01]), fun b q1 q2 => by rw [x0a 5 (by decide)] at q2; exact absurd q1 q2, Or.inl (by rw [x01])⟩
      · rw [if_neg (by omega), ex0, ld_a hj, zV_W hj]
      · rw [x0a 9 (by decide)] at q; exact absurd rfl q
      · rw [x0a 5 (by decide)] at q2; exact absurd q1 q2
      · have : Uz x0 = Uz z := Uz_frame (fun k _ _ => by rw [x01])
        rw [this, Nat.sub_self]
        rfl
    refine moveLoop hF h hv1 hvf c2 c1 c3 (by omega) _ (if vic z (z.2 6 n) then 1 else 0) ?_ (hi - fr) fr FU x0 (BPL (zV z) (z.2 6) id) (if vic z (z.2 6 n) then 1 else 0) (by omega) (by omega) (Nat.le_refl _) hst ?_
    · intro x bp fl hx hfl
      rw [← hmv] at hfl
      have hflc : fl = chN z n := by
        rw [hfl]
        unfold chN
        by_cases d : vic z (z.2 6 n)
        · rw [if_pos d, if_pos (Or.inl rfl), if_pos (Or.inl d)]
        · rw [if_neg d]
          by_cases d2 : 0 < mvn z n
          · rw [if_pos (Or.inr d2), if_pos (Or.inr d2)]
          · rw [if_neg (fun q => q.elim (by decide) d2), if_neg (fun q => q.elim d d2)]
      have hxu := hx.uz
      rw [← hmv] at hxu
      have x6 : x.2 6 = z.2 6 := hx.ar 6 (by decide) (by decide) (by decide) (by decide) (by decide) (by decide) (by decide) (by decide)
      by_cases d : chN z n = 0
      · rw [hflc, d, if_pos i00]
        have d' : ¬ (vic z (z.2 6 n) ∨ 0 < mvn z n) := fun q => by
          unfold chN at d
          rw [if_pos q] at d
          omega
        have hm0 : mvn z n = 0 := by omega
        have hnv : ∀ k, base ≤ k → k < base + (hi - fr) → ¬ vic z (BPL (zV z) (z.2 6) id k) := fun k k1 k2 q => by
          rw [hmv] at hm0
          have := sm_z (f := fun j => if vic z (BPL (zV z) (z.2 6) id (base + j)) then 1 else 0) hm0 (i := k - base) (by omega)
          have this : (if vic z (BPL (zV z) (z.2 6) id (base + (k - base))) then 1 else 0) = 0 := this
          rw [show base + (k - base) = k by omega, if_pos q] at this
          omega
        have ebp : bp = BPL (zV z) (z.2 6) id := by
          funext k
          by_cases q : base ≤ k ∧ k < base + (hi - fr)
          · rcases (hx.b1 k q.1 q.2).2.2.2 with v | ⟨-, v⟩
            · exact v
            · exact absurd v (hnv k q.1 q.2)
          · exact hx.b0 k q
        have wx := hx.wk
        rw [ebp, up_id] at wx
        obtain ⟨nx, eb⟩ := h.keep wx hx.kw x6
        refine Ev.ret ⟨x, ch, rfl, nx, ⟨fun k a1 a2 a3 a4 _ _ _ _ => hx.sc k a1 a3 a4, fun a ha => hx.ar a (by omega) (by omega) (by omega) (by omega) (by omega) (by omega) (by omega) (by omega)⟩, hx.ar 7 (by decide) (by decide) (by decide) (by decide) (by decide) (by decide) (by decide) (by decide), hx.ar 8 (by decide) (by decide) (by decide) (by decide) (by decide) (by decide) (by decide) (by decide), hx.ar 19 (by decide) (by decide) (by decide) (by decide) (by decide) (by decide) (by decide) (by decide), by omega, fun m _ => by rw [x6], hx.kw, by rw [x6], by rw [x6]; exact fun q => d' (Or.inl q), fun i => ?_, fun b q1 q2 => ?_, fun b q1 q2 => ?_, hx.fz, ?_, hx.en, hx.un', hx.av, fun b q1 q2 => ?_, fun b q1 q2 => ?_, Or.inl (by rw [hx.sc 8 (by decide) (by decide) (by decide)]), hx.es, h.slk hx.kw (fun d _ => by rw [x6])⟩
        · have eR : RR (zV x) (x.2 6) n i = RR (zV z) (z.2 6) n i := by
            unfold RR
            rw [x6, (hx.kw.1 _ (by rw [(h.wk.p1 c).1]; decide)).2]
          rw [eR, hRz i]
          by_cases q : fr ≤ i ∧ i < hi
          · rw [if_pos q]
            exact hnv _ (by omega) (by omega)
          · rw [if_neg q]; exact vic0 z
        · obtain ⟨v1, v2⟩ := hx.u0 b q1 q2
          exact ⟨v1, Or.inl v2⟩
        · obtain ⟨v1, v2⟩ := hx.u1 b q1 q2
          exact ⟨by omega, v2⟩
        · rw [hx.sc 8 (by decide) (by decide) (by decide)]; exact he8
        · have hw5 : x.2 5 b ≠ 0 := fun v => by rw [nx.wk.lg.unused v] at q2; omega
          have := (hx.u1 b q1 hw5).1
          omega
        · exact hx.w2 b q1 (fun v => by rw [nx.wk.lg.unused v] at q2; omega)
      · have hch1 : chN z n = 1 := by
          unfold chN at d ⊢
          split at d
          · rename_i q; rw [if_pos q]
          · exact absurd rfl d
        have dv : vic z (z.2 6 n) ∨ 0 < mvn z n := by
          refine Classical.byContradiction (fun q => d ?_)
          unfold chN
          rw [if_neg q]
        rw [hflc, hch1, if_neg (by decide), show (0 : Int32) = nI 0 from rfl]
        have wx := hx.wk
        have x8 : x.1 8 = z.1 8 := hx.sc 8 (by decide) (by decide) (by decide)
        refine (putNode_s (k := 0) (by omega) rfl (by decide) wx.lg (by omega) n1 n2 (Or.inr (by
          have := (wx.p1 (n := n) (by rw [x6]; exact c)).2.2.2
          rw [this]; decide))).bd ?_
        rintro _ ⟨y, rfl, hy, hpn⟩
        obtain ⟨p4, p5, p6, p9, pA, pr, ps, pu, pw0, pu0, p69, p70, pne, p12, psg, -⟩ := _root_.id hpn
        have ny := h.reloc c hc hx hpn hy (by rw [hx.sc 11 (by decide) (by decide) (by decide)]; exact hse)
        have P : y.2 6 n = x.1 8 := by rw [p6, va_up_self]
        have hPw : z.2 5 (z.2 6 n) ≠ 0 := by rw [(h.wk.p1 c).1]; decide
        have hx8z : z.2 5 (x.1 8) = 0 := by
          refine Classical.byContradiction (fun q => ?_)
          exact (hx.kw.1 _ q).1 pw0
        have hn8 : ¬ vic z (x.1 8) := fun q => q.2 (by rw [x8]; exact he8)
        refine Ev.ret ⟨y, _, rfl, ny, FR.trans ⟨fun k a1 a2 a3 a4 _ _ _ _ => hx.sc k a1 a3 a4, fun a ha => hx.ar a (by omega) (by omega) (by omega) (by omega) (by omega) (by omega) (by omega) (by omega)⟩ (hpn.fr (by decide)).1, ?_, ?_, ?_, by omega, fun m hm => by rw [p6, va_up_ne _ _ hm, x6], hx.kw.trans hpn.kw, ?_, by rw [P]; exact hn8, fun i => ?_, fun b q1 q2 => ?_, fun b q1 q2 => ?_, fun s hs => hx.fz s (p12 s hs), ?_, ?_, ?_, hx.av.trans hpn.kw hpn.av, fun b q1 q2 => ?_, fun b q1 q2 => ?_, ?_, ?_, h.reloc_sl c hc hx hpn⟩
        · rw [pr 7 (by decide) (by decide) (by decide) (by decide) (by decide) (by decide) (by decide) (by decide), hx.ar 7 (by decide) (by decide) (by decide) (by decide) (by decide) (by decide) (by decide) (by decide)]
        · rw [pr 8 (by decide) (by decide) (by decide) (by decide) (by decide) (by decide) (by decide) (by decide), hx.ar 8 (by decide) (by decide) (by decide) (by decide) (by decide) (by decide) (by decide) (by decide)]
        · rw [pr 19 (by decide) (by decide) (by decide) (by decide) (by decide) (by decide) (by decide) (by decide), hx.ar 19 (by decide) (by decide) (by decide) (by decide) (by decide) (by decide) (by decide) (by decide)]
        · rw [P]
          exact ⟨fun q => by omega, fun q => absurd q c⟩
        · -- the pointers of the node as it is now
          have V : zV y (y.2 6 n) = cutW (ndW (x.2 20) n 0 (x.1 11) (y.1 8)) := by rw [P, hpn.V, if_pos rfl]
          have Vlo : ∀ j, j < 59 → zV y (y.2 6 n) j = x.2 20 j := fun j hj => by rw [V, cutW_lo (by omega), ndW_lo _ _ _ _ _ hj]
          have h58 : zV y (y.2 6 n) 58 = zV z (z.2 6 n) 58 := by rw [Vlo 58 (by decide), hx.nd 58 (by decide), if_neg (by omega)]
          have hk0 : pNo (zV z (z.2 6 n) 58) (zV y (y.2 6 n) 0) = pNo (zV z (z.2 6 n) 58) (zV z (z.2 6 n) 0) := by
            by_cases q : zV z (z.2 6 n) 58 = 0
            · have hf6 : fr = 6 := by rw [hfr, q]; rfl
              have e0 : zV y (y.2 6 n) 0 = zV z (z.2 6 n) 0 := by
                rw [Vlo 0 (by decide), hx.nd 0 (by decide), if_neg (show ¬ (fr ≤ 0 ∧ 0 < hi) by omega)]
              rw [e0]
            · unfold pNo
              rw [if_neg q, if_neg q]
          have hyn : ¬ y.2 6 n = 0 := by omega
          unfold RR ptw
          rw [if_neg hyn, h58, hk0, ← hfr, ← hhi]
          by_cases q : fr ≤ i ∧ i < hi
          · rw [if_pos q, Vlo i (by omega), hx.nd i (by omega), if_pos q]
            obtain ⟨v1, v2, v3, v4⟩ := hx.b1 (base + (i - fr)) (by omega) (by omega)
            have hb : bp (base + (i - fr)) < 2117 := by
              by_cases e : bp (base + (i - fr)) = 0
              · omega
              · have hr := wx.tr.rb wx.lg (n := id) (i := base + (i - fr)) (by rw [va_up_self]; exact e)
                rw [va_up_self] at hr
                exact hr.2.2.1
            rw [show (zV z (z.2 6 n) i / 4096 * 4096 + bp (base + (i - fr))) % 4096 = bp (base + (i - fr)) by omega]
            exact v3
          · rw [if_neg q]; exact vic0 z
        · rw [p9, x6] at q2 ⊢
          have hne : b ≠ x.1 8 := fun e => q1 (by rw [e]; exact hx8z)
          by_cases e : b = z.2 6 n
          · rw [e, va_up_self]
            refine ⟨rfl, ?_⟩
            rcases dv with v | v
            · exact Or.inl v
            · exact Or.inr ⟨rfl, v⟩
          · rw [va_up_ne _ _ e, va_up_ne _ _ hne] at q2 ⊢
            obtain ⟨v1, v2⟩ := hx.u0 b q1 q2
            exact ⟨v1, Or.inl v2⟩
        · rw [p9, x6]
          rw [p5] at q2
          have hne : b ≠ z.2 6 n := fun e => hPw (by rw [← e]; exact q1)
          rw [va_up_ne _ _ hne]
          by_cases e : b = x.1 8
          · rw [e, va_up_self]
            exact ⟨by decide, hn8⟩
          · rw [va_up_ne _ _ e] at q2 ⊢
            obtain ⟨v1, v2⟩ := hx.u1 b q1 q2
            exact ⟨by omega, v2⟩
        · rcases psg with v | v
          · rw [v, x8]; exact he8
          · exact hvf _ (hx.fz _ v)
        · rw [ps 9 (by decide) (by decide) (by decide)]; exact hx.en
        · have hx8u : x.2 9 (x.1 8) = 0 := pu0
          have hxP : x.2 9 (z.2 6 n) = 1 := by
            have := (wx.p1 (n := n) (by rw [x6]; exact c)).2.2.2
            rw [x6] at this
            exact this
          have hne8 : z.2 6 n ≠ x.1 8 := by rw [← x6]; exact pne
          have s1 := un_up (z := x) (y := zR x 9 (va_up (x.2 9) (x.1 8) 1)) (b := x.1 8) (v := 1) (by have := wx.lg.end8; omega) (by rw [zR2, if_pos rfl])
          have s2 := un_up (z := zR x 9 (va_up (x.2 9) (x.1 8) 1)) (y := y) (b := z.2 6 n) (v := 0) hpb (by rw [p9, zR2, if_pos rfl, x6])
          rw [hx8u, if_pos rfl, if_neg (by decide)] at s1
          rw [zR2, if_pos rfl, va_up_ne _ _ hne8, hxP, if_neg (by decide), if_pos rfl] at s2
          have := hx.un'
          omega
        · by_cases e : b = x.1 8
          · rw [e, x8]; exact Or.inl rfl
          · exfalso
            rw [p9, x6] at q2
            have hne : b ≠ z.2 6 n := fun e => hPw (by rw [← e]; exact q1)
            rw [va_up_ne _ _ hne, va_up_ne _ _ e] at q2
            have hw5 : x.2 5 b ≠ 0 := fun v => by rw [wx.lg.unused v] at q2; omega
            have := (hx.u1 b q1 hw5).1
            omega
        · rw [p9, x6] at q2
          have hne : b ≠ z.2 6 n := fun e => hPw (by rw [← e]; exact q1)
          rw [va_up_ne _ _ hne] at q2
          by_cases e : b = x.1 8
          · rw [e, va_up_self] at q2; omega
          · rw [va_up_ne _ _ e] at q2
            exact hx.w2 b q1 (fun v => by rw [wx.lg.unused v] at q2; omega)
        · rcases psg with v | v
          · rw [v, x8]; exact Or.inl rfl
          · exact Or.inr (hx.fz _ v)
        · rw [ps 9 (by decide) (by decide) (by decide)]; exact hx.es
    · rw [Nat.sub_self]
      have : mvc z id base 0 = 0 := rfl
      rw [this]
      by_cases d : vic z (z.2 6 n)
      · rw [if_pos d, if_pos (Or.inl rfl)]
      · rw [if_neg d, if_neg (fun q => q.elim (by decide) (by decide))]
