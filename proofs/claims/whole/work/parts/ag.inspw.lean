/-! the inspector: what is led to, segments, the whole -/
theorem sm_only {f : Nat → Nat} {n s : Nat} (hs : s < n) (h : ∀ m, m < n → m ≠ s → f m = 0) : sm f n = f s := by
  rw [sm_congr (g := va_up (fun _ => 0) s (f s)) (fun m hm => by
    by_cases c : m = s
    · rw [c, va_up_self]
    · rw [va_up_ne _ _ c]; exact h m hm c)]
  have := sm_up (f := fun _ => 0) (i := s) (v := f s) (n := n) hs
  rw [sm_const] at this
  omega
theorem LN_dir {z : NSt} {T R : TRE} {tk : TKS} {PP : Nat → Nat} {ch : List Nat} (h : NW z T R tk PP ch) {d x : Nat} (hd : T.kd d = 2) (hx : 1 ≤ x) : LN z d x = sm (fun n => if T.ent d n = x then 1 else 0) NNM := by
  obtain ⟨g1, g2, -⟩ := h.tok.rng d (by omega)
  have hi := h.tok.ids d g1 g2
  have hD := (hi.dir hd).1
  have hp0 : z.2 6 d ≠ 0 := fun q => by
    have := hi.pl.mp q
    omega
  obtain ⟨k0, k58, -⟩ := hi.kd (by omega)
  unfold LN
  rw [if_neg hp0, k58, if_neg (by decide), if_pos rfl, k0, if_pos hd]
  have sl : ∀ s, ldD z (z.2 6 d) s = x → zV z (z.2 6 d) (6 + s) ≠ 0 ∧ zV z (zV z (z.2 6 d) (6 + s) % 4096) 0 = x := fun s q => by
    unfold ldD at q
    by_cases c : zV z (z.2 6 d) (6 + s) = 0
    · rw [if_pos c] at q; omega
    · rw [if_neg c] at q; exact ⟨c, q⟩
  refine cnt_inj (f := nmS z d) (p := fun s => ldD z (z.2 6 d) s = x) (q := fun n => T.ent d n = x) (fun s hs q => ?_) (fun n _ q => ?_) (fun s s' hs hs' q q' w => hD.dis s s' hs hs' (sl s q).1 (sl s' q').1 w)
  · obtain ⟨q1, q2⟩ := sl s q
    obtain ⟨-, -, a3, a4, -, a6⟩ := hD.slot s hs q1
    exact ⟨NL_lt a6, by rw [show T.ent d (nmS z d s) = _ from a3]; exact q2⟩
  · obtain ⟨s, s1, s2, s3⟩ := hD.all n (by omega)
    refine ⟨s, s1, ?_, s3⟩
    obtain ⟨-, -, a3, -, -, -⟩ := hD.slot s s1 s2
    unfold ldD
    rw [if_neg s2, ← a3, s3]
    exact q
/-- nodes that lead to nodes: whose they are -/
theorem LN_node {z : NSt} {T R : TRE} {tk : TKS} {PP : Nat → Nat} {ch : List Nat} (h : NW z T R tk PP ch) {m x : Nat} (hx : 1 ≤ x) (hm : T.kd m ≠ 2) (hq : LN z m x ≠ 0) : 250 < x ∧ x < 2048 ∧ z.2 6 x ≠ 0 ∧ ∃ id j, T.kd id = 1 ∧ j ≤ 7 ∧ NB (zV z) (z.2 6) id j = x ∧ m = if j < 3 then id else NB (zV z) (z.2 6) id 0 := by
  have hn : z.2 6 m ≠ 0 := fun v => by
    unfold LN at hq
    rw [if_pos v] at hq
    exact hq rfl
  obtain ⟨id, base, fr, hi, hc, -⟩ := crd_ex h hn
  obtain ⟨i1, i2, ik, -, -, -, -, cc⟩ := hc
  rcases cc with ⟨v0, v1, v2, v3, v4⟩ | ⟨v0, v1, v2, ⟨v3, j, v4, v5, v6, v7, v8⟩ | ⟨v3, v4, v5, v6⟩⟩
  · subst v0
    have k1 : T.kd m = 1 := by
      rcases v3 with ⟨k, -⟩ | ⟨k, -⟩
      · exact absurd k hm
      · exact k
    have hi' := h.tok.ids m i1 i2
    have hno := (hi'.fil k1).2.2
    unfold LN at hq
    rw [if_neg hn, v4, if_neg (by decide), if_pos rfl, (hi'.kd ik).1, if_neg hm] at hq
    obtain ⟨i, hi3, hw⟩ := sm_ex (Nat.pos_of_ne_zero hq)
    have e : zV z (z.2 6 m) (26 + i) = x := Classical.byContradiction (fun w => hw (if_neg w))
    obtain ⟨j, hj, ej⟩ : ∃ j, j < 3 ∧ NB (zV z) (z.2 6) m j = x := by
      by_cases c : i = 2
      · exact ⟨0, by omega, by rw [← e, c]; rfl⟩
      · refine ⟨1 + i, by omega, ?_⟩
        rw [← e]
        unfold NB
        rw [if_neg (by omega), if_pos (by omega), show 25 + (1 + i) = 26 + i by omega]
    have hr := hno.rng j (by omega) (by omega)
    rw [ej] at hr
    exact ⟨hr.1, hr.2.1, hr.2.2.1, m, j, k1, by omega, ej, by rw [if_pos hj]⟩
  · unfold LN at hq
    rw [if_neg hn, v8, if_neg (by decide), if_neg (by decide)] at hq
    exact absurd rfl hq
  · have hno := ((h.tok.ids id i1 i2).fil v1).2.2
    have hz5 := hno.ixz (by rw [v5]; omega)
    rw [v5] at hz5
    have h28 : zV z (z.2 6 id) 28 = m := by rw [← v5]; rfl
    unfold LN at hq
    rw [if_neg hn, v6, if_pos rfl] at hq
    obtain ⟨i, hi3, hw⟩ := sm_ex (Nat.pos_of_ne_zero hq)
    have e : zV z (z.2 6 m) i = x := Classical.byContradiction (fun w => hw (if_neg w))
    have i5 : i < 5 := Classical.byContradiction (fun w => by
      have := hz5.1 i (by omega) hi3
      omega)
    have ej : NB (zV z) (z.2 6) id (3 + i) = x := by
      rw [← e]
      unfold NB
      rw [if_neg (by omega), if_neg (by omega), h28, if_neg (by omega), show 3 + i - 3 = i by omega]
    have hr := hno.rng (3 + i) (by omega) (by omega)
    rw [ej] at hr
    exact ⟨hr.1, hr.2.1, hr.2.2.1, id, 3 + i, v1, by omega, ej, by rw [if_neg (by omega)]; exact v5.symm⟩
theorem LT_id {z : NSt} {T R : TRE} {tk : TKS} {PP : Nat → Nat} {ch : List Nat} (h : NW z T R tk PP ch) (hT : TWF T) {x : Nat} (h1 : 1 ≤ x) (h2 : x ≤ 250) : LT z 2048 x = lkc T x := by
  unfold LT lkc
  rw [show (2048 : Nat) = 251 + 1797 from rfl, sm_cut, sm_zero (f := fun i => LN z (251 + i) x) (fun i _ => Classical.byContradiction (fun w => by
    have hk : T.kd (251 + i) ≠ 2 := fun v => by
      have := (h.tok.rng (251 + i) (by omega)).2.1
      omega
    have := (LN_node h h1 hk w).1
    omega)), Nat.add_zero]
  refine sm_congr (fun d _ => ?_)
  by_cases c : T.kd d = 2
  · exact LN_dir h c h1
  · rw [sm_zero (fun n _ => if_neg (by rw [hT.noe d n c]; omega))]
    exact Classical.byContradiction (fun w => by
      have := (LN_node h h1 c w).1
      omega)
theorem LN_one {z : NSt} {T R : TRE} {tk : TKS} {PP : Nat → Nat} {ch : List Nat} (h : NW z T R tk PP ch) {x id j : Nat} (h1 : T.kd id = 1) (h2 : j ≤ 7) (h3 : NB (zV z) (z.2 6) id j = x) (hx : 250 < x) : LN z (if j < 3 then id else NB (zV z) (z.2 6) id 0) x = 1 ∧ (if j < 3 then id else NB (zV z) (z.2 6) id 0) < 2048 := by
  obtain ⟨g1, g2, -⟩ := h.tok.rng id (by omega)
  have hi' := h.tok.ids id g1 g2
  have hno := (hi'.fil h1).2.2
  have hp0 : z.2 6 id ≠ 0 := fun v => by
    have := hi'.pl.mp v
    omega
  obtain ⟨k0, k58, -⟩ := hi'.kd (by omega)
  by_cases c : j < 3
  · rw [if_pos c]
    refine ⟨?_, by omega⟩
    unfold LN
    rw [if_neg hp0, k58, if_neg (by decide), if_pos rfl, k0, if_neg (by omega)]
    have key : ∀ i, i < 3 → zV z (z.2 6 id) (26 + i) = NB (zV z) (z.2 6) id (if i = 2 then 0 else 1 + i) := fun i hi => by
      by_cases d : i = 2
      · rw [if_pos d, d]; rfl
      · rw [if_neg d]
        unfold NB
        rw [if_neg (by omega), if_pos (by omega), show 25 + (1 + i) = 26 + i by omega]
    refine sm_uniq (P := fun i => zV z (z.2 6 id) (26 + i) = x) (x := if j = 0 then 2 else j - 1) (by split <;> omega) ?_ (fun i hi e => ?_)
    · show zV z (z.2 6 id) (26 + if j = 0 then 2 else j - 1) = x
      rw [key _ (by split <;> omega), ← h3]
      congr 1
      split <;> split <;> omega
    · have e : zV z (z.2 6 id) (26 + i) = x := e
      rw [key i hi] at e
      have := hno.inj (if i = 2 then 0 else 1 + i) j (by split <;> omega) h2 (by omega) (by rw [e, h3])
      by_cases d : i = 2
      · rw [if_pos d] at this; rw [if_pos this.symm]; exact d
      · rw [if_neg d] at this; rw [if_neg (by omega)]; omega
  · rw [if_neg c]
    have hm0 : NB (zV z) (z.2 6) id 0 ≠ 0 := fun v => by
      have v : zV z (z.2 6 id) 28 = 0 := v
      have : NB (zV z) (z.2 6) id j = 0 := by
        unfold NB
        rw [if_neg (by omega), if_neg (by omega), if_pos v]
      omega
    have hr := hno.rng 0 (by omega) hm0
    have hz5 := hno.ixz hm0
    obtain ⟨m, em⟩ : ∃ m, m = NB (zV z) (z.2 6) id 0 := ⟨_, rfl⟩
    have h28 : zV z (z.2 6 id) 28 = m := by rw [em]; rfl
    rw [← em] at hm0 hr hz5 ⊢
    refine ⟨?_, hr.2.1⟩
    unfold LN
    rw [if_neg hr.2.2.1, hr.2.2.2.2, if_pos (by rw [if_pos rfl])]
    have key : ∀ i, i < 5 → zV z (z.2 6 m) i = NB (zV z) (z.2 6) id (3 + i) := fun i hi => by
      unfold NB
      rw [if_neg (by omega), if_neg (by omega), h28, if_neg hm0, show 3 + i - 3 = i by omega]
    refine sm_uniq (P := fun i => zV z (z.2 6 m) i = x) (x := j - 3) (by omega) ?_ (fun i hi e => ?_)
    · show zV z (z.2 6 m) (j - 3) = x
      rw [key _ (by omega), ← h3, show 3 + (j - 3) = j by omega]
    · have e : zV z (z.2 6 m) i = x := e
      have i5 : i < 5 := Classical.byContradiction (fun w => by
        have := hz5.1 i (by omega) hi
        omega)
      rw [key i i5] at e
      have := hno.inj (3 + i) j (by omega) h2 (by omega) (by rw [e, h3])
      omega
theorem LT_nd {z : NSt} {T R : TRE} {tk : TKS} {PP : Nat → Nat} {ch : List Nat} (h : NW z T R tk PP ch) (hT : TWF T) {x : Nat} (h1 : 250 < x) (h2 : x < 2048) : LT z 2048 x = if z.2 6 x = 0 then 0 else 1 := by
  have dir0 : ∀ m, T.kd m = 2 → LN z m x = 0 := fun m hm => by
    rw [LN_dir h hm (by omega)]
    refine sm_zero (fun n _ => if_neg (fun w => ?_))
    have := (hT.tg m n (by omega)).1
    have := (h.tok.rng _ this).2.1
    omega
  unfold LT
  by_cases c : z.2 6 x = 0
  · rw [if_pos c]
    refine sm_zero (fun m _ => ?_)
    by_cases d : T.kd m = 2
    · exact dir0 m d
    · exact Classical.byContradiction (fun w => (LN_node h (by omega) d w).2.2.1 c)
  · rw [if_neg c]
    obtain ⟨id, j, l1, l2, l3⟩ := h.led x h1 c
    obtain ⟨o1, o2⟩ := LN_one h l1 l2 l3 h1
    rw [sm_only o2 (fun m hm hne => ?_)]
    · exact o1
    · by_cases d : T.kd m = 2
      · exact dir0 m d
      · refine Classical.byContradiction (fun w => ?_)
        obtain ⟨-, -, -, id', j', e1, e2, e3, e4⟩ := LN_node h (by omega) d w
        obtain ⟨g1, g2, -⟩ := h.tok.rng id (by omega)
        obtain ⟨g1', g2', -⟩ := h.tok.rng id' (by omega)
        have r := ((h.tok.ids id g1 g2).fil l1).2.2.rng j l2 (by omega)
        have r' := ((h.tok.ids id' g1' g2').fil e1).2.2.rng j' e2 (by omega)
        rw [l3] at r
        rw [e3] at r'
        have ei : id' = id := by rw [← r.2.2.2.1, ← r'.2.2.2.1]
        rw [ei] at e3 e4
        have ej := ((h.tok.ids id g1 g2).fil l1).2.2.inj j' j e2 l2 (by omega) (by rw [e3, l3])
        rw [ej] at e4
        exact hne e4
theorem led_s (FU : Nat) {y z : NSt} {T R : TRE} {tk : TKS} {PP : Nat → Nat} {ch : List Nat} (hN : NW z T R tk PP ch) (hT : TWF T) {Cl : Nat → Prop} (h : IV y z Cl (LT z 2048)) {x : Nat} (h1 : 1 ≤ x) (h2 : x < 2048) : Ins_inspectLed FU (nI x) (nI (z.2 6 x)) (up y) = some (up y) := by
  have hp := hN.wk.pb x
  have h32 := hN.wk.wd 6 (by decide) (by decide) x
  have b49 : ∀ v, LT z 2048 x = v → Ins_inspectLed_b49 FU (nI x) (nI v) (up y) = some (up y) := fun v hv => by
    unfold Ins_inspectLed_b49 Ins_inspectLed_b65
    rw [rdA_z y 25 h2 (by decide), Option.bind_some, h.ld x h1 h2, hv, if_pos rfl, exp1, Option.bind_some]
  unfold Ins_inspectLed Ins_inspectLed_b9
  by_cases c : z.2 6 x = 0
  · have e0 : LT z 2048 x = 0 := by
      by_cases d : x ≤ 250
      · rw [LT_id hN hT h1 d]
        have k0 := (hN.tok.ids x h1 d).pl.mp c
        refine sm_zero (fun e _ => sm_zero (fun n _ => if_neg (fun w => ?_)))
        have := (hT.tg e n (by omega)).1
        rw [w] at this
        exact this k0
      · rw [LT_nd hN hT (by omega) h2, if_pos c]
    unfold Ins_inspectLed_b14
    rw [if_pos (show nI (z.2 6 x) = (0 : Int32) by rw [c]; rfl), if_pos (show nI (z.2 6 x) = (0 : Int32) by rw [c]; rfl)]
    exact b49 0 e0
  · rw [if_neg (ne0_I h32 c)]
    by_cases c1 : x = 1
    · have k2 : T.kd 1 = 2 := hT.ac.1
      have hi := hN.tok.ids 1 (by decide) (by decide)
      have e0 : LT z 2048 x = 0 := by
        rw [LT_id hN hT h1 (by omega)]
        refine sm_zero (fun e _ => sm_zero (fun n _ => if_neg (fun w => ?_)))
        have := (hT.tg e n (by omega)).2
        omega
      unfold Ins_inspectLed_b14
      rw [if_pos (show nI x = (1 : Int32) by rw [c1]; rfl), if_neg (ne0_I h32 c), if_neg (show ¬ (250 : Int32) < nI x by rw [c1]; decide), show (0 : Int32) = nI 0 from rfl, h.is.word FU hp (by decide), Option.bind_some, c1, (hi.kd (by omega)).1, k2, if_neg (show ¬ nI 2 = (1 : Int32) by decide)]
      rw [c1] at b49 e0
      exact b49 0 e0
    · rw [if_neg (fun w : nI x = (1 : Int32) => c1 ((eqN (by omega) (c := 1) (by decide)).mp w))]
      unfold Ins_inspectLed_b14
      rw [if_neg (ne0_I h32 c)]
      by_cases d : x ≤ 250
      · have hi := hN.tok.ids x h1 d
        have hk : T.kd x ≠ 0 := fun v => c (hi.pl.mpr v)
        obtain ⟨-, -, g3⟩ := hN.tok.rng x hk
        rw [if_neg (show ¬ (250 : Int32) < nI x from fun w => by
          rw [show (250 : Int32) = nI 250 from rfl, nI_ltI (by decide) (by omega)] at w
          omega), show (0 : Int32) = nI 0 from rfl, h.is.word FU hp (by decide), Option.bind_some, (hi.kd hk).1]
        rcases g3 with k | k
        · rw [if_pos (show nI (T.kd x) = (1 : Int32) by rw [k]; rfl), show (2 : Int32) = nI 2 from rfl, h.is.word FU hp (by decide), Option.bind_some, (hi.fil k).2.1]
          exact b49 _ (by rw [LT_id hN hT h1 d, hT.lk x k])
        · rw [if_neg (show ¬ nI (T.kd x) = (1 : Int32) by rw [k]; decide)]
          exact b49 1 (by rw [LT_id hN hT h1 d, hT.dl x k c1])
      · rw [if_pos (show (250 : Int32) < nI x from nI_lt (a := 250) (by omega) (by omega))]
        exact b49 1 (by rw [LT_nd hN hT (by omega) h2, if_neg c])
theorem seg_b (FU : Nat) {y z : NSt} (hL : LG z) (h : IS y z) (h24 : ∀ b, b < 2117 → y.2 24 b = z.2 9 b) {s : Nat} (hs : s < z.1 6) : ∀ (m j n : Nat), j + m = 16 → m < n → Ins_inspectSegment_b10 FU n (nI s) (nI (sm (fun i => if z.2 9 (69 + 16 * s + i) = 1 then 1 else 0) j)) (nI (sm (fun i => if z.2 9 (69 + 16 * s + i) = 2 then 1 else 0) j)) (nI (69 + 16 * s + j)) (up y) = some (up y) := by
  have hS := hL.1.1.2.1
  have hc := hL.1.2.2.1 s (by omega)
  have y10 := h.ar 10 (by decide) (by decide) (by decide)
  have y11 := h.ar 11 (by decide) (by decide) (by decide)
  have y12 := h.ar 12 (by decide) (by decide) (by decide)
  intro m
  induction m with
  | zero =>
    intro j n h1 h2
    obtain ⟨n, rfl⟩ : ∃ q9, n = q9 + 1 := ⟨n - 1, by omega⟩
    have h1 : j = 16 := h1
    subst h1
    have e1 : sm (fun i => if z.2 9 (69 + 16 * s + i) = 1 then 1 else 0) 16 = z.2 10 s := hc.1.symm
    have e2 : sm (fun i => if z.2 9 (69 + 16 * s + i) = 2 then 1 else 0) 16 = z.2 11 s := hc.2.symm
    have b1 := sm1b (p := fun i => z.2 9 (69 + 16 * s + i) = 1) 16
    have b2 := sm1b (p := fun i => z.2 9 (69 + 16 * s + i) = 2) 16
    rw [e1] at b1
    rw [e2] at b2
    rw [e1, e2]
    unfold Ins_inspectSegment_b10 FF_firstOf
    have e3 : (69 : Int32) + (nI s + (1 : Int32)) * (16 : Int32) = nI (69 + 16 * s + 16) := by
      rw [nI_1, show (16 : Int32) = nI 16 from rfl, pk_mul, show (69 : Int32) = nI 69 from rfl, nI_add]
      congr 1
      omega
    rw [e3, Option.bind_some, if_pos (nI_le (Nat.le_refl _) (by omega)), Log_nodesIn_z FU y (by omega), Option.bind_some, y10, if_pos rfl, Log_dataIn_z FU y (by omega), Option.bind_some, y11, if_pos rfl]
    unfold Ins_inspectSegment_b123 Ins_inspectSegment_b144 Ins_inspectSegment_b149 Log_isFree
    rw [exp1, Option.bind_some, if_neg (show ¬ nI s < (0 : Int32) from fun w => by
      rw [show (0 : Int32) = nI 0 from rfl, nI_ltI (by omega) (by decide)] at w
      omega), up1, h.sc 6 (by decide), if_neg (nI_ge hs (by omega)), rdA_z y 12 (by omega) (by decide), Option.bind_some, y12]
    by_cases c : z.2 12 s = 0
    · rw [c, if_pos i00, Option.bind_some, if_pos rfl, exp1, Option.bind_some]
    · obtain ⟨f1, f2, f3⟩ := hL.1.2.2.2.1.1 s c
      have u0 : ∀ k i, k = 1 ∨ k = 2 → i < 16 → ¬ z.2 9 (69 + 16 * s + i) = k := fun k i hk hi w => by
        have := (hL.1.2.1 (69 + 16 * s + i) (by omega)).2.2.2
        rw [f3 i hi] at this
        omega
      have z1 : z.2 10 s = 0 := by
        rw [← e1]
        exact sm_zero (fun i hi => if_neg (u0 1 i (Or.inl rfl) hi))
      have z2 : z.2 11 s = 0 := by
        rw [← e2]
        exact sm_zero (fun i hi => if_neg (u0 2 i (Or.inr rfl) hi))
      rw [f1, if_neg (show ¬ nI 1 = (0 : Int32) by decide), Option.bind_some, if_neg (show ¬ (1 : Int32) = 0 by decide), z1, z2, if_pos (show nI 0 + nI 0 = (0 : Int32) by decide), exp1, Option.bind_some]
  | succ m ih =>
    intro j n h1 h2
    obtain ⟨n, rfl⟩ : ∃ q9, n = q9 + 1 := ⟨n - 1, by omega⟩
    unfold Ins_inspectSegment_b10 FF_firstOf
    have e3 : (69 : Int32) + (nI s + (1 : Int32)) * (16 : Int32) = nI (69 + 16 * s + 16) := by
      rw [nI_1, show (16 : Int32) = nI 16 from rfl, pk_mul, show (69 : Int32) = nI 69 from rfl, nI_add]
      congr 1
      omega
    have hb : 69 + 16 * s + j < 2117 := by omega
    have hu := hL.use2 (69 + 16 * s + j)
    have eu : Log_useOf FU (nI (69 + 16 * s + j)) (up y) = some (nI (z.2 9 (69 + 16 * s + j))) := by
      unfold Log_useOf
      rw [if_neg (show ¬ nI (69 + 16 * s + j) < (0 : Int32) from fun w => by
        rw [show (0 : Int32) = nI 0 from rfl, nI_ltI (by omega) (by decide)] at w
        omega), if_pos (show nI (69 + 16 * s + j) < (2117 : Int32) from nI_lt (b := 2117) hb (by decide)), rdA_z y 9 hb (by decide), Option.bind_some, h.ar 9 (by decide) (by decide) (by decide)]
    rw [e3, Option.bind_some, if_neg (nI_ge (by omega) (by omega)), rdA_z y 24 hb (by decide), Option.bind_some, eu, Option.bind_some, h24 _ hb, if_pos rfl]
    unfold Ins_inspectSegment_b46
    rw [exp1, Option.bind_some, rdA_z y 24 hb (by decide), Option.bind_some, h24 _ hb]
    have go := ih (j + 1) n (by omega) (by omega)
    have s1 : sm (fun i => if z.2 9 (69 + 16 * s + i) = 1 then 1 else 0) (j + 1) = sm (fun i => if z.2 9 (69 + 16 * s + i) = 1 then 1 else 0) j + (if z.2 9 (69 + 16 * s + j) = 1 then 1 else 0) := rfl
    have s2 : sm (fun i => if z.2 9 (69 + 16 * s + i) = 2 then 1 else 0) (j + 1) = sm (fun i => if z.2 9 (69 + 16 * s + i) = 2 then 1 else 0) j + (if z.2 9 (69 + 16 * s + j) = 2 then 1 else 0) := rfl
    rw [s1, s2] at go
    have fin : ∀ a b, a = (if z.2 9 (69 + 16 * s + j) = 1 then 1 else 0) → b = (if z.2 9 (69 + 16 * s + j) = 2 then 1 else 0) → (Ins_inspectSegment_b10 FU n) (nI s) (nI (sm (fun i => if z.2 9 (69 + 16 * s + i) = 1 then 1 else 0) j) + nI a) (nI (sm (fun i => if z.2 9 (69 + 16 * s + i) = 2 then 1 else 0) j) + nI b) (nI (69 + 16 * s + j) + 1) (up y) = some (up y) := fun a b ha hb => by
      rw [nI_add, nI_add, nI_1, ha, hb]
      exact go
    have b66 : ∀ a, a = (if z.2 9 (69 + 16 * s + j) = 1 then 1 else 0) → Ins_inspectSegment_b66 FU (Ins_inspectSegment_b10 FU n) (nI s) (nI (sm (fun i => if z.2 9 (69 + 16 * s + i) = 2 then 1 else 0) j)) (nI (69 + 16 * s + j)) (nI a) (nI (sm (fun i => if z.2 9 (69 + 16 * s + i) = 1 then 1 else 0) j)) (up y) = some (up y) := fun a ha => by
      unfold Ins_inspectSegment_b66 Ins_inspectSegment_b85
      rw [rdA_z y 24 hb (by decide), Option.bind_some, h24 _ hb]
      by_cases c : z.2 9 (69 + 16 * s + j) = 2
      · rw [if_pos (show nI (z.2 9 (69 + 16 * s + j)) = (2 : Int32) by rw [c]; rfl)]
        exact fin a 1 ha (by rw [if_pos c])
      · rw [if_neg (fun w : nI (z.2 9 (69 + 16 * s + j)) = (2 : Int32) => c ((eqN (by omega) (c := 2) (by decide)).mp w))]
        exact fin a 0 ha (by rw [if_neg c])
    by_cases c : z.2 9 (69 + 16 * s + j) = 1
    · rw [if_pos (show nI (z.2 9 (69 + 16 * s + j)) = (1 : Int32) by rw [c]; rfl)]
      exact b66 1 (by rw [if_pos c])
    · rw [if_neg (fun w : nI (z.2 9 (69 + 16 * s + j)) = (1 : Int32) => c ((eqN (by omega) (c := 1) (by decide)).mp w))]
      exact b66 0 (by rw [if_neg c])
theorem free_b (FU : Nat) {y z : NSt} (hL : LG z) (h : IS y z) : ∀ (m s n : Nat), s + m = z.1 6 → m < n → Ins_inspectFree_b4 FU n (nI (sm (fun t => if z.2 12 t = 0 then 0 else 1) s)) (nI s) (up y) = some (up y) := by
  have hS := hL.1.1.2.1
  have y12 := h.ar 12 (by decide) (by decide) (by decide)
  intro m
  induction m with
  | zero =>
    intro s n h1 h2
    obtain ⟨n, rfl⟩ : ∃ q9, n = q9 + 1 := ⟨n - 1, by omega⟩
    have h1 : s = z.1 6 := h1
    have e : sm (fun t => if z.2 12 t = 0 then 0 else 1) s = z.1 7 := by
      rw [hL.1.2.2.2.1.2, show (128 : Nat) = s + (128 - s) by omega, sm_cut, sm_zero (f := fun i => z.2 12 (s + i)) (fun i _ => Classical.byContradiction (fun w => by
        have := (hL.1.2.2.2.1.1 (s + i) w).2.1
        omega)), Nat.add_zero]
      refine sm_congr (fun t _ => ?_)
      by_cases c : z.2 12 t = 0
      · rw [if_pos c, c]
      · rw [if_neg c, (hL.1.2.2.2.1.1 t c).1]
    unfold Ins_inspectFree_b4 Log_segments Log_freeSegments Ins_inspectFree_b57
    rw [Option.bind_some, up1, h.sc 6 (by decide), ← h1, if_pos (nI_le (Nat.le_refl _) (by omega)), Option.bind_some, up1, h.sc 7 (by decide), e, if_pos rfl, exp1, Option.bind_some]
  | succ m ih =>
    intro s n h1 h2
    obtain ⟨n, rfl⟩ : ∃ q9, n = q9 + 1 := ⟨n - 1, by omega⟩
    unfold Ins_inspectFree_b4 Log_segments Log_isFree Ins_inspectFree_b32
    rw [Option.bind_some, up1, h.sc 6 (by decide), if_neg (nI_ge (by omega) (by omega)), if_neg (show ¬ nI s < (0 : Int32) from fun w => by
      rw [show (0 : Int32) = nI 0 from rfl, nI_ltI (by omega) (by decide)] at w
      omega), if_neg (nI_ge (by omega) (by omega)), rdA_z y 12 (by omega) (by decide), Option.bind_some, y12]
    have go := ih (s + 1) n (by omega) (by omega)
    have s1 : sm (fun t => if z.2 12 t = 0 then 0 else 1) (s + 1) = sm (fun t => if z.2 12 t = 0 then 0 else 1) s + (if z.2 12 s = 0 then 0 else 1) := rfl
    rw [s1] at go
    by_cases c : z.2 12 s = 0
    · rw [if_pos c] at go
      rw [c, if_pos i00, Option.bind_some, if_pos rfl, show (0 : Int32) = nI 0 from rfl, nI_add, nI_1]
      exact go
    · rw [if_neg c] at go
      rw [(hL.1.2.2.2.1.1 s c).1, if_neg (show ¬ nI 1 = (0 : Int32) by decide), Option.bind_some, if_neg (show ¬ (1 : Int32) = 0 by decide), nI_1, nI_1]
      exact go
theorem insp96_b {FU : Nat} (hF : 140000 < FU) {y z : NSt} {T R : TRE} {tk : TKS} {PP : Nat → Nat} {ch : List Nat} (hN : NW z T R tk PP ch) (hse : z.1 11 < 2 ^ 31) (h : IS y z) (h24 : ∀ b, b < 2117 → y.2 24 b = z.2 9 b) : ∀ (m s n : Nat), s + m = z.1 6 → m < n → Ins_inspect_b96 FU n (nI s) (up y) = some (0, up y) := by
  have hL := hN.wk.lg
  have hS := hL.1.1.2.1
  intro m
  induction m with
  | zero =>
    intro s n h1 h2
    obtain ⟨n, rfl⟩ : ∃ q9, n = q9 + 1 := ⟨n - 1, by omega⟩
    have h1 : s = z.1 6 := h1
    have eV : ∀ t, wsN y t = wsN z t := fun t => by
      have e : zV y = zV z := funext (zV_congr (h.ar 4 (by decide) (by decide) (by decide)))
      unfold wsN
      rw [e]
    unfold Ins_inspect_b96 Log_segments Log_serial Ins_inspectFree
    rw [Option.bind_some, up1, h.sc 6 (by decide), ← h1, if_pos (nI_le (Nat.le_refl _) (by omega)), show (0 : Int32) = nI 0 from rfl]
    have hfr := free_b FU hL h (z.1 6) 0 FU (by omega) (by omega)
    have e0 : sm (fun t => if z.2 12 t = 0 then 0 else 1) 0 = 0 := rfl
    rw [e0] at hfr
    rw [hfr, Option.bind_some, wholeSerial_z FU (fun i => h.wd 4 (by decide) (by decide) i) (by decide), Option.bind_some, show (1 : Int32) = nI 1 from rfl, wholeSerial_z FU (fun i => h.wd 4 (by decide) (by decide) i) (by decide), Option.bind_some, Option.bind_some, eV, eV, ws_max hse hN.wk.pk.h0 hN.wk.pk.h1 hN.wk.pk.ho, up1, h.sc 11 (by decide), if_pos rfl]
    unfold Ins_inspect_b157
    rw [show nI 1 = (1 : Int32) from rfl, exp1, Option.bind_some, up1, h.f0]
  | succ m ih =>
    intro s n h1 h2
    obtain ⟨n, rfl⟩ : ∃ q9, n = q9 + 1 := ⟨n - 1, by omega⟩
    unfold Ins_inspect_b96 Log_segments Ins_inspectSegment FF_firstOf
    have e3 : (69 : Int32) + nI s * (16 : Int32) = nI (69 + 16 * s) := by
      rw [show (16 : Int32) = nI 16 from rfl, pk_mul, show (69 : Int32) = nI 69 from rfl, nI_add]
      congr 1
      omega
    rw [Option.bind_some, up1, h.sc 6 (by decide), if_neg (nI_ge (by omega) (by omega)), Option.bind_some, e3]
    have hsg := seg_b FU hL h h24 (s := s) (by omega) 16 0 FU (by omega) (by omega)
    have e0 : sm (fun i => if z.2 9 (69 + 16 * s + i) = 1 then 1 else 0) 0 = 0 := rfl
    have e1 : sm (fun i => if z.2 9 (69 + 16 * s + i) = 2 then 1 else 0) 0 = 0 := rfl
    rw [e0, e1] at hsg
    rw [show (0 : Int32) = nI 0 from rfl, show 69 + 16 * s = 69 + 16 * s + 0 from rfl, hsg, Option.bind_some, nI_1]
    exact ih (s + 1) n (by omega) (by omega)
theorem insp68_b {FU : Nat} (hF : 140000 < FU) {y z : NSt} {T R : TRE} {tk : TKS} {PP : Nat → Nat} {ch : List Nat} (hN : NW z T R tk PP ch) (hT : TWF T) (hse : z.1 11 < 2 ^ 31) {Cl : Nat → Prop} (h : IV y z Cl (LT z 2048)) (h24 : ∀ b, b < 2117 → y.2 24 b = z.2 9 b) : ∀ (m x n : Nat), x + m = 2048 → 1 ≤ x → m < n → Ins_inspect_b68 FU n (nI x) (up y) = some (0, up y) := by
  have hS := hN.wk.lg.1.1.2.1
  intro m
  induction m with
  | zero =>
    intro x n h1 h0 h2
    obtain ⟨n, rfl⟩ : ∃ q9, n = q9 + 1 := ⟨n - 1, by omega⟩
    have h1 : x = 2048 := h1
    unfold Ins_inspect_b68
    rw [h1, if_pos (show (2048 : Int32) ≤ nI 2048 by decide)]
    exact insp96_b hF hN hse h.is h24 (z.1 6) 0 FU (by omega) (by omega)
  | succ m ih =>
    intro x n h1 h0 h2
    obtain ⟨n, rfl⟩ : ∃ q9, n = q9 + 1 := ⟨n - 1, by omega⟩
    unfold Ins_inspect_b68
    rw [if_neg (show ¬ (2048 : Int32) ≤ nI x from fun w => by
      rw [show (2048 : Int32) = nI 2048 from rfl, nI_leI (by decide) (by omega)] at w
      omega), h.is.pl hN FU (by omega), Option.bind_some, led_s FU hN hT h h0 (by omega), Option.bind_some, nI_1]
    exact ih (x + 1) n (by omega) (by omega) (by omega)
theorem insp29_b {FU : Nat} (hF : 140000 < FU) {z : NSt} {T R : TRE} {tk : TKS} {PP : Nat → Nat} {ch : List Nat} (hN : NW z T R tk PP ch) (hT : TWF T) (hse : z.1 11 < 2 ^ 31) : ∀ (m x n : Nat) (y : NSt), x + m = 2048 → 1 ≤ x → m < n → IV y z (CL z x) (LT z x) → Ev (Ins_inspect_b29 FU n (nI x) (up y)) fun r => ∃ w, r = (0, up w) ∧ IS w z := by
  intro m
  induction m with
  | zero =>
    intro x n y h1 h0 h2 h
    obtain ⟨n, rfl⟩ : ∃ q9, n = q9 + 1 := ⟨n - 1, by omega⟩
    have h1 : x = 2048 := h1
    subst h1
    unfold Ins_inspect_b29
    have h24 : ∀ b, b < 2117 → y.2 24 b = z.2 9 b := fun b hb => by
      by_cases c : z.2 9 b = 0
      · rw [c]
        by_cases d : CL z 2048 b
        · rw [(h.ow b hb).1 d, c]
        · exact (h.ow b hb).2 d
      · refine (h.ow b hb).1 ?_
        have hu := hN.wk.lg.use2 b
        by_cases c1 : z.2 9 b = 1
        · obtain ⟨b0, m, e⟩ := (hN.wk.tr.2.1 b).mp c1
          have hm : z.2 6 m ≠ 0 := by rw [e]; exact b0
          exact ⟨m, (hN.wk.nu m hm).2.1, hm, Or.inl e.symm⟩
        · obtain ⟨b0, m, i, e⟩ := (hN.wk.tr.2.2.1 b).mp (by omega)
          obtain ⟨m', i', m1, m2⟩ := RR_sur hN (id := m) (k := i) (by rw [e]; exact b0)
          rw [e] at m2
          have hm : z.2 6 m' ≠ 0 := fun v => by
            unfold RR at m2
            rw [if_pos v] at m2
            exact b0 m2.symm
          exact ⟨m', m1, hm, Or.inr ⟨i', m2, b0⟩⟩
    rw [if_pos (show (2048 : Int32) ≤ nI 2048 by decide), show (1 : Int32) = nI 1 from rfl, insp68_b hF hN hT hse h h24 2047 1 FU (by omega) (by omega) (by omega)]
    exact Ev.ret ⟨y, rfl, h.is⟩
  | succ m ih =>
    intro x n y h1 h0 h2 h
    obtain ⟨n, rfl⟩ : ∃ q9, n = q9 + 1 := ⟨n - 1, by omega⟩
    have h32 := hN.wk.wd 6 (by decide) (by decide) x
    unfold Ins_inspect_b29 Ins_inspect_b60
    rw [if_neg (show ¬ (2048 : Int32) ≤ nI x from fun w => by
      rw [show (2048 : Int32) = nI 2048 from rfl, nI_leI (by decide) (by omega)] at w
      omega), h.is.pl hN FU (by omega), Option.bind_some]
    by_cases c : z.2 6 x = 0
    · rw [if_pos (show nI (z.2 6 x) = (0 : Int32) by rw [c]; rfl), nI_1]
      refine ih (x + 1) n y (by omega) (by omega) (by omega) (h.wk (fun b _ => ⟨fun w => ?_, fun w => ?_⟩) (fun t _ _ => ?_))
      · obtain ⟨m', m1, m2, m3⟩ := w
        by_cases d : m' = x
        · rw [d] at m2; exact absurd c m2
        · exact ⟨m', by omega, m2, m3⟩
      · obtain ⟨m', m1, m2, m3⟩ := w
        exact ⟨m', by omega, m2, m3⟩
      · show LT z x t + LN z x t = LT z x t
        unfold LN
        rw [if_pos c, Nat.add_zero]
    · rw [if_neg (ne0_I h32 c), Option.bind_some]
      refine (inspNode_s hF hN hT c h).bd ?_
      rintro _ ⟨w, rfl, hw⟩
      rw [nI_1]
      exact ih (x + 1) n w (by omega) (by omega) (by omega) hw
theorem inspect_s {FU : Nat} (hF : 140000 < FU) {z : NSt} {T R : TRE} {tk : TKS} {PP : Nat → Nat} {ch : List Nat} (hN : NW z T R tk PP ch) (hT : TWF T) (hse : z.1 11 < 2 ^ 31) : Ev (Ins_inspect FU (up z)) fun r => ∃ w, r = (0, up w) ∧ IS w z := by
  unfold Ins_inspect Dev_spoiled
  rw [show (0 : Int32) = nI 0 from rfl, fill0_z 24 0 z (by show 2117 < FU; omega), Option.bind_some, fill0_z 25 0 _ (by show 2048 < FU; omega), Option.bind_some, Option.bind_some, nx_eq]
  obtain ⟨x, ex⟩ : ∃ x, x = zR (zR z 24 (flN (z.2 24) 0 (lenF 24) 0)) 25 (flN ((zR z 24 (flN (z.2 24) 0 (lenF 24) 0)).2 25) 0 (lenF 25) 0) := ⟨_, rfl⟩
  have x1 : x.1 = z.1 := by rw [ex]; rfl
  have xa : ∀ a, a ≠ 24 → a ≠ 25 → x.2 a = z.2 a := fun a a1 a2 => by rw [ex, zR2, if_neg a2, zR2, if_neg a1]
  have x24 : ∀ b, x.2 24 b = if b < 2117 then 0 else z.2 24 b := fun b => by
    rw [ex, zR2, if_neg (by decide), zR2, if_pos rfl]
    unfold flN
    by_cases c : b < 2117
    · rw [if_pos ⟨Nat.zero_le _, c⟩, if_pos c]
    · rw [if_neg (fun w => c w.2), if_neg c]
  have x25 : ∀ b, x.2 25 b = if b < 2048 then 0 else z.2 25 b := fun b => by
    rw [ex, zR2, if_pos rfl, zR2, if_neg (by decide)]
    unfold flN
    by_cases c : b < 2048
    · rw [if_pos ⟨Nat.zero_le _, c⟩, if_pos c]
    · rw [if_neg (fun w => c w.2), if_neg c]
  rw [← ex, up1, x1, hN.wk.lg.1.2.2.2.2.2.2, up_I]
  have hw := hN.wk.wd
  have hIS : IS (zI x 20 0) z := by
    refine ⟨fun a a1 a2 a3 => by rw [zI2, xa a a1 a2], fun k hk => by rw [zI1, if_neg hk, x1], by rw [zI1, if_pos rfl], fun a a1 a2 i => ?_⟩
    rw [zI2]
    by_cases c : a = 24
    · rw [c, x24]
      split
      · decide
      · exact hw 24 (by decide) (by decide) i
    · by_cases d : a = 25
      · rw [d, x25]
        split
        · decide
        · exact hw 25 (by decide) (by decide) i
      · rw [xa a c d]; exact hw a a1 a2 i
  refine insp29_b hF hN hT hse 2047 1 FU (zI x 20 0) (by omega) (by omega) (by omega) ⟨hIS, fun b hb => ⟨fun q => ?_, fun _ => by rw [zI2, x24, if_pos hb]⟩, fun t t1 t2 => ?_⟩
  · obtain ⟨m, m1, m2, -⟩ := q
    rw [show m = 0 by omega] at m2
    exact absurd hN.p0 m2
  · rw [zI2, x25, if_pos t2]
    show 0 = 0 + LN z 0 t
    unfold LN
    rw [if_pos hN.p0]
theorem FIN.rows3 {z y : NSt} {A B : AB} {s : Nat} {PP : Nat → Nat} {ch : List Nat} (h : FIN z A s PP ch) (h1 : ∀ k, 5 ≤ k → k ≤ 11 ∨ (16 ≤ k ∧ k ≤ 19) → y.1 k = z.1 k) (h2 : ∀ a, 4 ≤ a → a ≤ 12 → y.2 a = z.2 a) (hw : WD y) (eT : B.T = A.T) (eO : B.O = A.O) (eS : B.S = A.S) (eF : B.F = A.F) (eu : B.us = A.us) (ef : B.fr = A.fr) (ek : B.tk = A.tk) (er : B.rm = A.rm) (en : B.rn = A.rn) : FIN y B s PP ch := by
  have eR : B.R = A.R := by unfold AB.R; rw [eO, eS, eF]
  have hz : Uz y = Uz z := Uz_frame (fun k _ _ => h1 k (by omega) (by omega))
  refine ⟨?_, ?_, ?_, ?_, ?_, ?_, ?_, ?_, ?_, ?_, ?_, by rw [eu]; exact h.u28⟩
  · rw [eT, eR, ek, eS]
    exact h.nw.frame (h2 4 (by decide) (by decide)) (h2 6 (by decide) (by decide)) (h.nw.wk.mem (fun k k1 _ => h1 k k1 (by omega)) (fun a a1 a2 _ _ => h2 a a1 a2) (fun n _ => Or.inl (by rw [h2 7 (by decide) (by decide)])) hw)
  · rw [eO]; exact h.pi
  · rw [eT, en, h2 8 (by decide) (by decide)]; exact h.st
  · rw [h1 16 (by decide) (by decide), er]; exact h.s16
  · rw [h1 17 (by decide) (by decide), eu]; exact h.s17
  · rw [h1 18 (by decide) (by decide), ef]; exact h.s18
  · rw [h1 19 (by decide) (by decide), ek]; exact h.s19
  · rw [er, eu, ef, hz]; exact h.uz
  · rw [KC_congr (h2 7 (by decide) (by decide)), eu, ef, er]; exact h.kc
  · rw [h1 11 (by decide) (by decide), ek]; exact h.se
  · rw [h1 6 (by decide) (by decide), er]; exact h.rs
theorem cl_faults {FU : Nat} (hF : 140000 < FU) {z : NSt} {A : AB} (h : FI z A) (hA : AI A 0) (htk : A.tk ≤ 2000) : Ans (FF_faults FU (up z)) (faultsA A) := by
  unfold faultsA
  by_cases c : A.dv = 2
  · rw [pwrA_yes c]
    obtain ⟨hc, PP, ch, hfi⟩ := h.on c
    have hse := hfi.se
    unfold FF_faults
    rw [pwr_yes FU hc c, Option.bind_some, if_pos (show (0 : Nat) = 0 from rfl)]
    refine (inspect_s hF hfi.nw hA.tw (by omega)).bd ?_
    rintro _ ⟨y, rfl, y1⟩
    have hbs := hc.bs
    refine Ev.ret ⟨y, rfl, FI.mk (hc.frame (fun k hk => y1.sc k (by omega)) (fun a ha => y1.ar a (by omega) (by omega) (by omega)) ⟨y1.wd, ?_⟩) c (hfi.rows3 (fun k k1 k2 => y1.sc k (by omega)) (fun a _ ha => y1.ar a (by omega) (by omega) (by omega)) y1.wd rfl rfl rfl rfl rfl rfl rfl rfl rfl)⟩
    · unfold BS LGw zW at hbs ⊢
      rw [y1.ar 4 (by decide) (by decide) (by decide), y1.ar 5 (by decide) (by decide) (by decide), y1.ar 6 (by decide) (by decide) (by decide), y1.ar 9 (by decide) (by decide) (by decide), y1.ar 12 (by decide) (by decide) (by decide)]
      exact hbs
  · rw [pwrA_no c]
    unfold FF_faults
    rw [pwr_no FU h c, Option.bind_some, if_neg (show ¬ (2 : Nat) = 0 by decide)]
    exact Ans.no h 2
