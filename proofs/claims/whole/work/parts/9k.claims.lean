/-! claimAll -/
theorem CLF.more {z : NSt} {W : Nat → Nat → Nat} {q : Nat → Nat} {R : TRE} (hr : RFI W q R) {id : Nat} (hk : R.kd id = 1) {J J' : Nat → Bool} (h : CLF z W q R id J) (hJ : ∀ j, j ≤ 7 → NB W q id j ≠ 0 → J j = J' j) (hJ0 : J 0 = J' 0 ∨ True) : CLF z W q R id J' := by
  have ej : ∀ m, m ≠ 0 → ((∃ j, j ≤ 7 ∧ J j = true ∧ NB W q id j = m) ↔ ∃ j, j ≤ 7 ∧ J' j = true ∧ NB W q id j = m) := fun m hm =>
    ⟨fun ⟨j, a1, a2, a3⟩ => ⟨j, a1, by rw [← hJ j a1 (by rw [a3]; exact hm)]; exact a2, a3⟩, fun ⟨j, a1, a2, a3⟩ => ⟨j, a1, by rw [hJ j a1 (by rw [a3]; exact hm)]; exact a2, a3⟩⟩
  refine ⟨h.cl.cong (fun m hm => ?_) (fun i k hi0 => ?_), h.p1, fun m m1 m2 => ?_, fun m m1 m2 => ?_, h.kk⟩
  · constructor
    · rintro (d | d | ⟨j, a1, a2, a3, a4⟩)
      · exact Or.inl d
      · exact Or.inr (Or.inl d)
      · obtain ⟨j2, b1, b2, b3⟩ := (ej m a4).mp ⟨j, a1, a2, a3⟩
        exact Or.inr (Or.inr ⟨j2, b1, b2, b3, a4⟩)
    · rintro (d | d | ⟨j, a1, a2, a3, a4⟩)
      · exact Or.inl d
      · exact Or.inr (Or.inl d)
      · obtain ⟨j2, b1, b2, b3⟩ := (ej m a4).mpr ⟨j, a1, a2, a3⟩
        exact Or.inr (Or.inr ⟨j2, b1, b2, b3, a4⟩)
  · have key : i = id → ndK k ≠ 0 → J (ndK k) = J' (ndK k) := fun e1 e2 => by
      rw [e1] at hi0
      have hk4 := (BPL_k hi0).1
      have h7 : ndK k ≤ 7 := by
        by_cases c : k < 20
        · rw [ndK_lo c]; omega
        · rw [ndK_hi (by omega)]; omega
      refine hJ _ h7 (fun w => hi0 ?_)
      have hrg := (nd_rng (k := k) (j := ndK k) (by omega)).mp rfl
      have := hr.nb hk (j := ndK k) (i := k - (20 + 56 * (ndK k - 1))) (by omega) h7 (by omega)
      rw [show 20 + 56 * (ndK k - 1) + (k - (20 + 56 * (ndK k - 1))) = k by omega, if_pos w] at this
      exact this
    constructor
    · rintro (d | ⟨d1, d2⟩)
      · exact Or.inl d
      · by_cases e : ndK k = 0
        · exact Or.inr ⟨d1, Or.inl e⟩
        · exact Or.inr ⟨d1, Or.inr (by rw [← key d1 e]; exact d2.resolve_left e)⟩
    · rintro (d | ⟨d1, d2⟩)
      · exact Or.inl d
      · by_cases e : ndK k = 0
        · exact Or.inr ⟨d1, Or.inl e⟩
        · exact Or.inr ⟨d1, Or.inr (by rw [key d1 e]; exact d2.resolve_left e)⟩
  · obtain ⟨b1, b2⟩ := h.p2 m m1 m2
    exact ⟨b1, b2.elim Or.inl (fun w => Or.inr ((ej m (by omega)).mp w))⟩
  · exact h.p3 m m1 (m2.elim Or.inl (fun w => Or.inr ((ej m (by omega)).mpr w)))
def JJ (a : Nat) (j : Nat) : Bool := decide (j < a)
theorem claimFive {FU : Nat} (hF : 140000 < FU) {W : Nat → Nat → Nat} {q : Nat → Nat} {R : TRE} (hr : RFI W q R) {id : Nat} (hk : R.kd id = 1) (k9 : Int32 → St → Option St) (z0 : NSt) (Q : St → Prop) (hq : ∀ z, CLF z W q R id (JJ 8) → FCL z0 z → Ev (Chk_claimAll_b153 FU k9 (nI id) (up z)) Q) : ∀ (m i n : Nat) (z : NSt), i + m = 56 → m < n → CLF z W q R id (JJ (if i < 5 then 3 + i else 8)) → FCL z0 z → Ev (Chk_claimAll_b115 FU k9 n (nI id) (nI (if NB W q id 0 = 0 then 0 else q (NB W q id 0))) (nI i) (up z)) Q := by
  obtain ⟨g1, g2, g3⟩ := hr.tok.rng id (by omega)
  have hno := ((hr.tok.ids id g1 g2).fil hk).2.2
  intro m
  induction m with
  | zero =>
    intro i n z e1 e2 h hf
    obtain ⟨n, rfl⟩ : ∃ q9, n = q9 + 1 := ⟨n - 1, by omega⟩
    have e1 : i = 56 := e1
    subst e1
    unfold Chk_claimAll_b115
    rw [if_pos (show (56 : Int32) ≤ nI 56 from nI_le (Nat.le_refl 56) (by decide))]
    exact hq z h hf
  | succ m ih =>
    intro i n z e1 e2 h hf
    obtain ⟨n, rfl⟩ : ∃ q9, n = q9 + 1 := ⟨n - 1, by omega⟩
    unfold Chk_claimAll_b115
    rw [show (56 : Int32) = nI 56 from rfl, if_neg (nI_ge (by omega) (by decide))]
    by_cases c : NB W q id 0 = 0
    · rw [if_pos c, if_pos i00]
      have hz : ∀ j, 3 ≤ j → NB W q id j = 0 := fun j hj => by
        have c : W (q id) 28 = 0 := c
        unfold NB
        rw [if_neg (by omega), if_neg (by omega), if_pos c]
      refine hq z (h.more hr hk (fun j hj w => ?_) (Or.inr trivial)) hf
      have : j < 3 := by
        refine Classical.byContradiction (fun w' => w (hz j (by omega)))
      unfold JJ
      rw [decide_eq_true (by split <;> omega), decide_eq_true (by omega)]
    · have hr0 := hno.rng 0 (by omega) c
      obtain ⟨r1, r2, -⟩ := hr.qr _ hr0.2.2.1
      rw [if_neg c, if_neg (ne0_I (by omega) hr0.2.2.1), Dev_word_e FU z r2 (by omega), Option.bind_some, ← zV_W (by omega), h.cl.vw, nI_1]
      have ih' := ih (i + 1) n
      rw [if_neg c] at ih'
      by_cases c5 : i < 5
      · have en : W (q (NB W q id 0)) i = NB W q id (3 + i) := by
          have e0 : NB W q id 0 = W (q id) 28 := rfl
          rw [e0] at c ⊢
          unfold NB
          rw [if_neg (by omega), if_neg (by omega), if_neg c, show 3 + i - 3 = i by omega]
        rw [en]
        rw [if_pos c5] at h
        refine takeNode hF hr hk h (j := 3 + i) (by omega) (by unfold JJ; exact decide_eq_false (by omega)) (fun pr => Chk_claimAll_b115 FU k9 n (nI id) (nI (q (NB W q id 0))) (nI (i + 1)) pr.2) Q (fun y hy hfy => ?_)
        refine ih' y (by omega) (by omega) ?_ (hf.trans hfy)
        have e : drU (JJ (3 + i)) (3 + i) = JJ (if i + 1 < 5 then 3 + (i + 1) else 8) := by
          funext j
          unfold drU JJ
          by_cases d : j = 3 + i
          · rw [if_pos d]
            exact (decide_eq_true (by split <;> omega)).symm
          · rw [if_neg d]
            exact decide_eq_decide.mpr (by split <;> omega)
        rw [← e]; exact hy
      · rw [if_neg c5] at h
        rw [(hno.ixz c).1 i (by omega) (by omega)]
        unfold Tab_takeUp
        rw [if_pos (show nI 0 ≤ (250 : Int32) by decide), Option.bind_some]
        unfold Chk_claimNode
        show Ev ((if (0 : Int32) = 0 then some (up z) else _).bind _) Q
        rw [if_pos rfl, Option.bind_some]
        exact ih' z (by omega) (by omega) (by rw [if_neg (by omega)]; exact h) hf
/-- all ids below are claimed -/
def CLQ (z : NSt) (W : Nat → Nat → Nat) (q : Nat → Nat) (R : TRE) (id : Nat) : Prop := (CLI z W q (NI W q R id) (fun i _ => i < id)) ∧ (∀ n, n ≤ 250 → z.2 6 n = q n) ∧ (∀ n, 250 < n → z.2 6 n ≠ 0 → z.2 6 n = q n ∧ NI W q R id n) ∧ (∀ n, 250 < n → NI W q R id n → z.2 6 n = q n) ∧ (∀ n, n < 2048 → z.2 7 n = q n)
theorem CLQ.cl {z : NSt} {W : Nat → Nat → Nat} {q : Nat → Nat} {R : TRE} {id : Nat} (h9 : CLQ z W q R id) : CLI z W q (NI W q R id) (fun i _ => i < id) := h9.1
theorem CLQ.p1 {z : NSt} {W : Nat → Nat → Nat} {q : Nat → Nat} {R : TRE} {id : Nat} (h9 : CLQ z W q R id) : ∀ n, n ≤ 250 → z.2 6 n = q n := h9.2.1
theorem CLQ.p2 {z : NSt} {W : Nat → Nat → Nat} {q : Nat → Nat} {R : TRE} {id : Nat} (h9 : CLQ z W q R id) : ∀ n, 250 < n → z.2 6 n ≠ 0 → z.2 6 n = q n ∧ NI W q R id n := h9.2.2.1
theorem CLQ.p3 {z : NSt} {W : Nat → Nat → Nat} {q : Nat → Nat} {R : TRE} {id : Nat} (h9 : CLQ z W q R id) : ∀ n, 250 < n → NI W q R id n → z.2 6 n = q n := h9.2.2.2.1
theorem CLQ.kk {z : NSt} {W : Nat → Nat → Nat} {q : Nat → Nat} {R : TRE} {id : Nat} (h9 : CLQ z W q R id) : ∀ n, n < 2048 → z.2 7 n = q n := h9.2.2.2.2
def clK3 (FU n : Nat) (y1 : Int32) (pr : Int32 × St) : Option St := Chk_claimAll_b115 FU (Chk_claimAll_b9 FU n) FU y1 pr.1 (0 : Int32) pr.2
def clK2 (FU n : Nat) (y1 v4 : Int32) (pr : Int32 × St) : Option St := (Dev_word FU v4 (28 : Int32) pr.2).bind fun v13 => (Tab_takeUp FU v13 pr.2).bind fun p14 => (Chk_claimNode FU p14.1 p14.2).bind fun p15 => clK3 FU n y1 (p14.1, p15)
def clK1 (FU n : Nat) (y1 v4 : Int32) (pr : Int32 × St) : Option St := (Dev_word FU v4 (27 : Int32) pr.2).bind fun v10 => (Tab_takeUp FU v10 pr.2).bind fun p11 => (Chk_claimNode FU p11.1 p11.2).bind fun p12 => clK2 FU n y1 v4 (p11.1, p12)
theorem claimAll_b {FU : Nat} (hF : 140000 < FU) {W : Nat → Nat → Nat} {q : Nat → Nat} {R : TRE} (hr : RFI W q R) (hsup : W 0 0 ≠ 1 ∧ W 0 0 < 2 ^ 32) (z0 : NSt) : ∀ (m id n : Nat) (z : NSt), id + m = 251 → m < n → 1 ≤ id → CLQ z W q R id → FCL z0 z → Ev (Chk_claimAll_b9 FU n (nI id) (up z)) fun r => ∃ y, r = up y ∧ CLQ y W q R 251 ∧ FCL z0 y := by
  intro m
  induction m with
  | zero =>
    intro id n z e1 e2 e3 h hf
    obtain ⟨n, rfl⟩ : ∃ q9, n = q9 + 1 := ⟨n - 1, by omega⟩
    have e1 : id = 251 := e1
    subst e1
    unfold Chk_claimAll_b9
    rw [if_pos (by decide)]
    exact Ev.ret ⟨z, rfl, h, hf⟩
  | succ m ih =>
    intro id n z e1 e2 e3 h hf
    obtain ⟨n, rfl⟩ : ∃ q9, n = q9 + 1 := ⟨n - 1, by omega⟩
    have hid : id ≤ 250 := by omega
    have hi := hr.tok.ids id e3 hid
    have hqid := h.p1 id hid
    have hstep : ∀ a, NI W q R (id + 1) a ↔ NI W q R id a ∨ a = id ∨ (R.kd id = 1 ∧ ∃ j, j ≤ 7 ∧ NB W q id j = a ∧ a ≠ 0) := fun a => by
      unfold NI
      constructor
      · rintro (⟨w1, w2⟩ | ⟨i, j, a1, a2, a3, a4, a5⟩)
        · by_cases e : a = id
          · exact Or.inr (Or.inl e)
          · exact Or.inl (Or.inl ⟨w1, by omega⟩)
        · by_cases e : i = id
          · rw [e] at a2 a4
            exact Or.inr (Or.inr ⟨a2, j, a3, a4, a5⟩)
          · exact Or.inl (Or.inr ⟨i, j, by omega, a2, a3, a4, a5⟩)
      · rintro ((⟨w1, w2⟩ | ⟨i, j, a1, a2, a3, a4, a5⟩) | e | ⟨a2, j, a3, a4, a5⟩)
        · exact Or.inl ⟨w1, by omega⟩
        · exact Or.inr ⟨i, j, by omega, a2, a3, a4, a5⟩
        · exact Or.inl ⟨by omega, by omega⟩
        · exact Or.inr ⟨id, j, by omega, a2, a3, a4, a5⟩
    unfold Chk_claimAll_b9
    rw [show (250 : Int32) = nI 250 from rfl, if_neg (nI_nlt hid (by decide)), Tab_placeOf_z FU z (by omega), Option.bind_some, plZ_in e3 (by omega), hqid]
    by_cases c : q id = 0
    · have hk0 := hi.pl.mp c
      rw [c]
      unfold Chk_claimNode
      rw [if_pos i00, Option.bind_some, show (0 : Int32) = nI 0 from rfl, Dev_word_e FU z (by decide) (by decide), Option.bind_some, ← zV_W (by decide), h.cl.vw, if_neg (show ¬ nI (W 0 0) = (1 : Int32) from fun w => hsup.1 ((nI_inj hsup.2 (by decide)).mp w))]
      unfold Chk_claimAll_b153
      rw [nI_1]
      refine ih (id + 1) n z (by omega) (by omega) (by omega) ⟨h.cl.cong (fun m hm => ?_) (fun i k hi0 => ?_), h.p1, fun m m1 m2 => ?_, fun m m1 m2 => ?_, h.kk⟩ hf
      · rw [(hstep m)]
        refine ⟨Or.inl, fun w => ?_⟩
        rcases w with w | w | ⟨w, -⟩
        · exact w
        · rw [w] at hm; exact absurd c hm
        · omega
      · have hne : i ≠ id := fun w => by
          rw [w, BPL_0 (Or.inl c)] at hi0
          exact hi0 rfl
        exact ⟨fun w => by omega, fun w => by omega⟩
      · obtain ⟨b1, b2⟩ := h.p2 m m1 m2
        exact ⟨b1, (hstep m).mpr (Or.inl b2)⟩
      · rcases (hstep m).mp m2 with w | w | ⟨w, -⟩
        · exact h.p3 m m1 w
        · omega
        · omega
    · have hkd : R.kd id ≠ 0 := fun w => c (hi.pl.mpr w)
      obtain ⟨k0, k58, k61⟩ := hi.kd hkd
      obtain ⟨r1, r2, -⟩ := hr.qr id c
      have hnN : ¬ NI W q R id id := by
        rintro (w | ⟨i, j, a1, a2, a3, a4, a5⟩)
        · omega
        · obtain ⟨v1, v2, -⟩ := hr.tok.rng i (by omega)
          have := ((hr.tok.ids i v1 v2).fil a2).2.2.rng j a3 (by rw [a4]; exact a5)
          omega
      rcases (hr.tok.rng id hkd).2.2 with kq | kq
      · -- a file
        have hb1 : ∀ k, k < 20 → BPL W q id k = W (q id) (6 + k) := fun k hk => by
          rw [BPL_f c hid (by rw [k0, kq]; decide) (by omega)]
          unfold bpF
          rw [if_pos hk]
        refine (claimNode_s hF hr (n := id) (id := id) (base := 0) (fr := 6) (hi := 26) c hnN (by rw [k58]; decide) (by rw [k58]; rfl) (by rw [k58, k0, kq]; rfl) (fun i a b => ?_) (fun k a b w => by omega) h.cl).bd ?_
        · have e9 := hb1 (0 + (i - 6)) (by omega)
          rw [e9, show 6 + (0 + (i - 6)) = i by omega]
          by_cases w : W (q id) i = 0
          · rw [w]
          · have := hr.dr id (0 + (i - 6)) (by rw [e9, show 6 + (0 + (i - 6)) = i by omega]; exact w)
            rw [e9, show 6 + (0 + (i - 6)) = i by omega] at this
            omega
        · rintro _ ⟨y, rfl, y1, y2, y3⟩
          have hV : ∀ (x : NSt), zV x = W → ∀ i, i < 64 → Dev_word FU (nI (q id)) (nI i) (up x) = some (nI (W (q id) i)) := fun x hx i hi' => by rw [Dev_word_e FU x r2 hi', ← zV_W hi', hx]
          rw [show (0 : Int32) = nI 0 from rfl, hV y y1.vw 0 (by decide), Option.bind_some, k0, kq, if_pos i11, show nI 0 = (0 : Int32) from rfl, if_neg (ne0_I (by omega) c), show (26 : Int32) = nI 26 from rfl, hV y y1.vw 26 (by decide), Option.bind_some]
          have hy : CLF y W q R id (JJ 0) := by
            refine ⟨y1.cong (fun m hm => ?_) (fun i k hi0 => ?_), fun m hm => by rw [y3 6 (by decide) (by decide) (by decide)]; exact h.p1 m hm, fun m m1 m2 => ?_, fun m m1 m2 => ?_, fun m hm => by rw [y3 7 (by decide) (by decide) (by decide)]; exact h.kk m hm⟩
            · refine ⟨fun w => w.elim Or.inl (fun v => Or.inr (Or.inl v)), fun w => ?_⟩
              rcases w with w | w | ⟨j, -, w, -⟩
              · exact Or.inl w
              · exact Or.inr w
              · exact absurd (of_decide_eq_true w) (by omega)
            · refine ⟨fun w => ?_, fun w => ?_⟩
              · rcases w with w | ⟨w1, -, w3⟩
                · exact Or.inl w
                · exact Or.inr ⟨w1, Or.inl (ndK_lo (by omega))⟩
              · rcases w with w | ⟨w1, w2 | w2⟩
                · exact Or.inl w
                · refine Or.inr ⟨w1, by omega, ?_⟩
                  refine Classical.byContradiction (fun v => ?_)
                  rw [ndK_hi (by omega)] at w2
                  omega
                · exact absurd (of_decide_eq_true w2) (by omega)
            · rw [y3 6 (by decide) (by decide) (by decide)] at m2 ⊢
              obtain ⟨b1, b2⟩ := h.p2 m m1 m2
              exact ⟨b1, Or.inl b2⟩
            · rw [y3 6 (by decide) (by decide) (by decide)]
              rcases m2 with w | ⟨j, -, w, -⟩
              · exact h.p3 m m1 w
              · exact absurd (of_decide_eq_true w) (by omega)
          have hfy : FCL z0 y := hf.trans ⟨y2, fun c _ c9 c10 c11 => y3 c c9 c10 c11⟩
          have n1 : W (q id) 26 = NB W q id 1 := rfl
          have n2 : W (q id) 27 = NB W q id 2 := rfl
          have n0 : W (q id) 28 = NB W q id 0 := rfl
          rw [n1]
          refine takeNode hF hr kq hy (j := 1) (by omega) (by unfold JJ; exact decide_eq_false (by omega)) (clK1 FU n (nI id) (nI (q id))) _ (fun a1 ha1 hfa1 => ?_)
          unfold clK1
          show Ev ((Dev_word FU (nI (q id)) (nI 27) (up a1)).bind _) _
          rw [hV a1 ha1.cl.vw 27 (by decide), Option.bind_some, n2]
          refine takeNode hF hr kq ha1 (j := 2) (by omega) (by rw [drU_n _ (by decide)]; unfold JJ; exact decide_eq_false (by omega)) (clK2 FU n (nI id) (nI (q id))) _ (fun a2 ha2 hfa2 => ?_)
          unfold clK2
          show Ev ((Dev_word FU (nI (q id)) (nI 28) (up a2)).bind _) _
          rw [hV a2 ha2.cl.vw 28 (by decide), Option.bind_some, n0]
          refine takeNode hF hr kq ha2 (j := 0) (by omega) (by rw [drU_n _ (by decide), drU_n _ (by decide)]; unfold JJ; exact decide_eq_false (by omega)) (clK3 FU n (nI id)) _ (fun a3 ha3 hfa3 => ?_)
          unfold clK3
          show Ev (Chk_claimAll_b115 FU (Chk_claimAll_b9 FU n) FU (nI id) (nI (if NB W q id 0 = 0 then 0 else q (NB W q id 0))) (nI 0) (up a3)) _
          have eJ : drU (drU (drU (JJ 0) 1) 2) 0 = JJ 3 := by
            funext j
            unfold drU JJ
            by_cases b0 : j = 0
            · rw [if_pos b0]; exact (decide_eq_true (by omega)).symm
            · rw [if_neg b0]
              by_cases b2 : j = 2
              · rw [if_pos b2]; exact (decide_eq_true (by omega)).symm
              · rw [if_neg b2]
                by_cases b1 : j = 1
                · rw [if_pos b1]; exact (decide_eq_true (by omega)).symm
                · rw [if_neg b1]
                  exact decide_eq_decide.mpr (by omega)
          rw [eJ] at ha3
          refine claimFive hF hr kq _ z0 _ (fun u hu hfu => ?_) 56 0 FU a3 (by omega) (by omega) ha3 (((hfy.trans hfa1).trans hfa2).trans hfa3)
          unfold Chk_claimAll_b153
          rw [nI_1]
          refine ih (id + 1) n u (by omega) (by omega) (by omega) ⟨hu.cl.cong (fun m hm => ?_) (fun i k hi0 => ?_), hu.p1, fun m m1 m2 => ?_, fun m m1 m2 => ?_, hu.kk⟩ hfu
          · rw [(hstep m)]
            constructor
            · rintro (w | w | ⟨j, b1, -, b3, b4⟩)
              · exact Or.inl w
              · exact Or.inr (Or.inl w)
              · exact Or.inr (Or.inr ⟨kq, j, b1, b3, b4⟩)
            · rintro (w | w | ⟨-, j, b1, b3, b4⟩)
              · exact Or.inl w
              · exact Or.inr (Or.inl w)
              · exact Or.inr (Or.inr ⟨j, b1, by unfold JJ; exact decide_eq_true (by omega), b3, b4⟩)
          · refine ⟨fun w => ?_, fun w => ?_⟩
            · rcases w with w | ⟨w, -⟩ <;> omega
            · by_cases e : i = id
              · refine Or.inr ⟨e, ?_⟩
                rw [e] at hi0
                have hk4 := (BPL_k hi0).1
                right
                unfold JJ
                refine decide_eq_true ?_
                by_cases c20 : k < 20
                · rw [ndK_lo c20]; omega
                · rw [ndK_hi (by omega)]; omega
              · exact Or.inl (by omega)
          · obtain ⟨b1, b2⟩ := hu.p2 m m1 m2
            refine ⟨b1, (hstep m).mpr ?_⟩
            rcases b2 with w | ⟨j, c1, -, c3⟩
            · exact Or.inl w
            · exact Or.inr (Or.inr ⟨kq, j, c1, c3, by omega⟩)
          · refine hu.p3 m m1 ?_
            rcases (hstep m).mp m2 with w | w | ⟨-, j, c1, c3, -⟩
            · exact Or.inl w
            · omega
            · exact Or.inr ⟨j, c1, by unfold JJ; exact decide_eq_true (by omega), c3⟩
      · -- a directory
        refine (claimNode_s hF hr (n := id) (id := id) (base := 0) (fr := 6) (hi := 54) c hnN (by rw [k58]; decide) (by rw [k58]; rfl) (by rw [k58, k0, kq]; rfl) (fun i a b => ?_) (fun k a b w => by omega) h.cl).bd ?_
        · rw [BPL_d c hid (by rw [k0, kq]) (by omega), show 6 + (0 + (i - 6)) = i by omega]
        · rintro _ ⟨y, rfl, y1, y2, y3⟩
          rw [show (0 : Int32) = nI 0 from rfl, Dev_word_e FU y r2 (by decide), Option.bind_some, ← zV_W (by decide), y1.vw, k0, kq, if_neg (by decide)]
          unfold Chk_claimAll_b153
          rw [nI_1]
          refine ih (id + 1) n y (by omega) (by omega) (by omega) ⟨y1.cong (fun m hm => ?_) (fun i k hi0 => ?_), fun m hm => by rw [y3 6 (by decide) (by decide) (by decide)]; exact h.p1 m hm, fun m m1 m2 => ?_, fun m m1 m2 => ?_, fun m hm => by rw [y3 7 (by decide) (by decide) (by decide)]; exact h.kk m hm⟩ (hf.trans ⟨y2, fun c _ c9 c10 c11 => y3 c c9 c10 c11⟩)
          · rw [(hstep m)]
            refine ⟨fun w => w.elim Or.inl (fun v => Or.inr (Or.inl v)), fun w => ?_⟩
            rcases w with w | w | ⟨w, -⟩
            · exact Or.inl w
            · exact Or.inr w
            · omega
          · refine ⟨fun w => ?_, fun w => ?_⟩
            · rcases w with w | ⟨w, -⟩ <;> omega
            · by_cases e : i = id
              · refine Or.inr ⟨e, by omega, ?_⟩
                rw [e] at hi0
                refine Classical.byContradiction (fun v => hi0 ?_)
                unfold BPL
                rw [if_neg (by omega), if_pos (by rw [k0, kq]), if_neg (by omega)]
              · exact Or.inl (by omega)
          · rw [y3 6 (by decide) (by decide) (by decide)] at m2 ⊢
            obtain ⟨b1, b2⟩ := h.p2 m m1 m2
            exact ⟨b1, (hstep m).mpr (Or.inl b2)⟩
          · rw [y3 6 (by decide) (by decide) (by decide)]
            rcases (hstep m).mp m2 with w | w | ⟨w, -⟩
            · exact h.p3 m m1 w
            · omega
            · omega
