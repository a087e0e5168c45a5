/-! a file's inode comes last -/
theorem up_va2 (F : Nat → Nat → Nat) (id : Nat) (g : Nat → Nat) (k v : Nat) : up2' (va_up F id g) id k v = va_up F id (va_up g k v) := by
  unfold up2'
  rw [va_up_self]
  funext i
  by_cases c : i = id
  · rw [c, va_up_self, va_up_self]
  · rw [va_up_ne _ _ c, va_up_ne _ _ c, va_up_ne _ _ c]
theorem FOK.all {W : Nat → Nat → Nat} {I J bp : Nat → Nat} {f : FV} (h : FOK W I bp f) (hJ : ∀ i, i < 58 → J i = I i) : FOK W J bp f := h.cong (fun i _ hi => hJ i hi)
theorem finNode_s {FU : Nat} (hF : 140000 < FU) {z z0 : NSt} {T R : TRE} {tk : Nat} {PP : Nat → Nat} {ch ch0 : List Nat} {id : Nat} {bp : Nat → Nat} {fv : FV} (h0 : NW z0 T R tk PP ch0) (h : MIC z z0 R tk PP ch id bp (fun _ => False)) (hk : T.kd id = 1) (hf : FOK (zV z) (z.2 13) bp fv) (hlk : z.2 13 2 = T.lk id) (hU : 33 ≤ Uz z) (hse : z.1 11 < 2 ^ 32) :
    Ev (Fil_finish_b34 FU (0 : Int32) (up z)) fun r => ∃ y ch', r = up y ∧ NW y { T with fil := va_up T.fil id fv } R tk PP ch' ∧ FR z0 y ∧ y.2 8 = z0.2 8 ∧ Uz y + 1 = Uz z ∧ KC y = KC z ∧ y.2 13 1 = z.2 13 1 := by
  obtain ⟨g1, g2, g3⟩ := h0.tok.rng id (by omega)
  have hi := h0.tok.ids id g1 g2
  have hw := h.wk
  have hp0 : z0.2 6 id ≠ 0 := fun q => by
    have := hi.pl.mp q
    omega
  have hpz : z.2 6 id ≠ 0 := by rw [h.pid id g2]; exact hp0
  unfold Fil_finish_b34
  rw [up1, h.hid, show (0 : Int32) = nI 0 from rfl]
  refine (putNode_s (k := 0) (by omega) rfl (by decide) hw.lg hU g1 (by omega) (Or.inr (by rw [(hw.p1 hpz).2.2.2]; decide))).bd ?_
  rintro _ ⟨y, rfl, hy, hpn⟩
  have hwy := hw.node (by decide) hpn hy g1 (by omega) (by rw [h.i0.2.2]; exact g1) (by rw [h.i0.2.2]; exact g2) (fun _ => h.i0.2.2) (fun q => by omega) hse
  have hky : KW z0 y := h.kw.trans hpn.kw
  have h69 := hpn.2.2.2.2.2.2.2.2.2.2.1
  have P : y.2 6 id = z.1 8 := by rw [hpn.2.2.1, va_up_self]
  have P' : ∀ n, n ≠ id → y.2 6 n = z.2 6 n := fun n q => by rw [hpn.2.2.1, va_up_ne _ _ q]
  have V : zV y (y.2 6 id) = cutW (ndW (z.2 13) id 0 (z.1 11) (y.1 8)) := by rw [P, hpn.V, if_pos rfl]
  have Vlo : ∀ i, i < 59 → zV y (y.2 6 id) i = z.2 13 i := fun i hi => by rw [V, cutW_lo (by omega), ndW_lo _ _ _ _ _ hi]
  have V61 : zV y (y.2 6 id) 61 = id := by rw [V]; exact h.i0.2.2
  have zk : ∀ n, z.2 6 n ≠ 0 → zV y (z.2 6 n) = zV z (z.2 6 n) := fun n q => (hpn.kw.1 _ (by rw [(hw.p1 q).1]; decide)).2
  have z0k : ∀ n, z0.2 6 n ≠ 0 → zV y (z0.2 6 n) = zV z0 (z0.2 6 n) := fun n q => (hky.1 _ (h.w0 n q)).2
  -- the numbers of this file
  have hnb : ∀ j, j ≤ 7 → NB (zV y) (y.2 6) id j = nuI z j := fun j hj => by
    have h28 : zV y (y.2 6 id) 28 = nuI z 0 := Vlo 28 (by decide)
    unfold NB
    by_cases c0 : j = 0
    · rw [if_pos c0, c0, h28]
    · rw [if_neg c0, h28]
      by_cases c3 : j < 3
      · rw [if_pos c3, Vlo _ (by omega)]
        unfold nuI
        rw [if_neg c0, if_pos c3]
      · rw [if_neg c3]
        have := (h.cl 0 (by omega) (fun q => q)).1 (j - 3) (by omega)
        have e : nuI z j = cnt' z bp 0 (j - 3) := by
          unfold nuI cnt'
          rw [if_neg c0, if_neg c3, if_pos rfl]
        rw [e, this]
        by_cases q : nuI z 0 = 0
        · rw [if_pos q, if_pos q]
        · rw [if_neg q, if_neg q]
          have hr := h.rg 0 (by omega) q
          rw [P' _ (by omega), zk _ hr.2.2.1]
  have hbf : ∀ k, k < 412 → bpF (zV y) (y.2 6) id k = bp k := fun k hk' => by
    unfold bpF
    by_cases c : k < 20
    · rw [if_pos c, Vlo _ (by omega), h.b0 k c]
    · rw [if_neg c, hnb _ (by omega)]
      obtain ⟨j, ej⟩ : ∃ j, j = 1 + (k - 20) / 56 := ⟨_, rfl⟩
      have := (h.cl j (by omega) (fun q => q)).1 ((k - 20) % 56) (Nat.mod_lt _ (by decide))
      unfold cnt' at this
      rw [if_neg (by omega), show 20 + 56 * (j - 1) + (k - 20) % 56 = k by omega] at this
      rw [← ej, this]
      by_cases q : nuI z j = 0
      · rw [if_pos q, if_pos q]
      · rw [if_neg q, if_neg q]
        have hr := h.rg j (by omega) q
        rw [P' _ (by omega), zk _ hr.2.2.1]
  have hV0 : zV y (y.2 6 id) 0 = 1 := by rw [Vlo 0 (by decide), h.i0.1]
  have hbl : ∀ k, BPL (zV y) (y.2 6) id k = bp k := fun k => by
    by_cases c : k < 412
    · rw [BPL_f (by omega) g2 (by omega) c, hbf k c]
    · unfold BPL
      rw [if_neg (by omega), if_neg (by omega), if_neg c, h.b9 k (by omega)]
  -- other ids
  have hsame : ∀ i, i ≠ id → 1 ≤ i → i ≤ 250 → z0.2 6 i ≠ 0 → SAME (zV z0) (zV y) (z0.2 6) (y.2 6) i := fun i q v1 v2 v3 => by
    have hi' := h0.tok.ids i v1 v2
    have hk' : T.kd i ≠ 0 := fun w => v3 (hi'.pl.mpr w)
    refine ⟨by rw [P' i q, h.pid i v2], z0k i v3, fun w j hj v => ?_⟩
    rw [(hi'.kd hk').1] at w
    have h3 := (h0.tok.rng i hk').2.2
    have hr := (hi'.fil (by omega)).2.2.rng j hj v
    refine ⟨?_, z0k _ hr.2.2.1⟩
    rw [P' _ (by omega)]
    exact h.pot _ hr.1 hr.2.2.1 (by rw [hr.2.2.2.1]; exact q)
  have hbp : ∀ i, i ≠ id → ∀ k, BPL (zV y) (y.2 6) i k = BPL (zV z0) (z0.2 6) i k := fun i q k => by
    by_cases c : z0.2 6 i = 0 ∨ 250 < i
    · rw [BPL_0 c]
      by_cases c2 : 250 < i
      · rw [BPL_0 (Or.inr c2)]
      · have : z0.2 6 i = 0 := by omega
        rw [BPL_0 (Or.inl (by rw [P' i q, h.pid i (by omega)]; exact this))]
    · have c1 : i ≠ 0 := fun w => c (Or.inl (by rw [w]; exact h0.p0))
      exact (hsame i q (by omega) (by omega) (fun w => c (Or.inl w))).bpl k
  have hBP : va_up (BPL (zV z0) (z0.2 6)) id bp = BPL (zV y) (y.2 6) := by
    funext i k
    by_cases c : i = id
    · rw [c, va_up_self, hbl k]
    · rw [va_up_ne _ _ c, hbp i c]
  rw [hBP] at hwy
  have hdat : ∀ k, bp k ≠ 0 → zV y (bp k) = zV z (bp k) := fun k q => by
    have hr := hw.tr.rb hw.lg (n := id) (i := k) (by rw [va_up_self]; exact q)
    rw [va_up_self] at hr
    exact (hpn.kw.1 _ (by rw [hr.2.2.2.2]; decide)).2
  refine Ev.ret ⟨y, _, rfl, ⟨hwy, ⟨fun i q => h0.tok.rng i q, fun i v1 v2 => ?_⟩, fun n n1 n2 => ?_⟩, h.fr.1.trans (hpn.fr (by decide)).1, by rw [(hpn.fr (by decide)).2, h.fr.2], hpn.2.2.2.2.2.2.2.1, ?_, ?_⟩
  · by_cases c : i = id
    · rw [c]
      refine ⟨⟨fun q => ?_, fun q => ?_⟩, fun _ => ⟨?_, ?_, V61⟩, fun _ => ⟨?_, ?_, ?_⟩, fun q => ?_, fun q n => hi.noe q n⟩
      · omega
      · have q : T.kd id = 0 := q
        omega
      · rw [hV0]; exact hk.symm
      · rw [Vlo 58 (by decide), h.i0.2.1]
      · show FOK (zV y) (zV y (y.2 6 id)) (bpF (zV y) (y.2 6) id) (va_up T.fil id fv id)
        rw [va_up_self]
        exact (hf.keep (W' := zV y) (bp' := bpF (zV y) (y.2 6) id) hbf (fun k _ q => hdat k q)).all (fun i hi => Vlo i (by omega))
      · rw [Vlo 2 (by decide), hlk]
      · refine ⟨fun j hj q => ?_, fun j j' hj hj' q e => ?_, fun j j1 hj q => ?_, fun q => ?_⟩
        · rw [hnb j hj] at q ⊢
          have hr := h.rg j hj q
          rw [P' _ (by omega), zk _ hr.2.2.1]
          exact hr
        · rw [hnb j hj] at q e
          rw [hnb j' hj'] at e
          exact h.nj j j' hj hj' q e
        · rw [hnb j hj] at q ⊢
          have hr := h.rg j hj q
          obtain ⟨v1, v2⟩ := h.cl j hj (fun q => q)
          obtain ⟨i, w1, w2⟩ := v2 q
          refine ⟨i, w1, ?_⟩
          rw [v1 i w1, if_neg q] at w2
          rw [P' _ (by omega), zk _ hr.2.2.1]
          exact w2
        · rw [hnb 0 (by omega)] at q ⊢
          have hr := h.rg 0 (by omega) q
          obtain ⟨v1, v2⟩ := h.cl 0 (by omega) (fun q => q)
          have hx : ∀ i, i < 56 → zV y (y.2 6 (nuI z 0)) i = z.2 14 i := fun i hi => by
            have := v1 i hi
            rw [if_neg q] at this
            rw [P' _ (by omega), zk _ hr.2.2.1, ← this]
            rfl
          refine ⟨fun i w1 w2 => by rw [hx i w2]; exact h.xz i w1 w2, ?_⟩
          obtain ⟨i, w1, w2⟩ := v2 q
          have w2 : z.2 14 i ≠ 0 := w2
          by_cases c5 : i < 5
          · exact ⟨i, c5, by rw [hx i w1]; exact w2⟩
          · exact absurd (h.xz i (by omega) w1) w2
      · have q : T.kd id = 2 := q
        omega
    · exact (h0.tok.ids i v1 v2).same v2 ⟨rfl, rfl, rfl, rfl, va_up_ne _ _ c⟩ (hsame i c v1 v2) (fun q => by rw [P' i c, h.pid i v2]; exact q) (fun k q => (hky.1 _ (by rw [(h0.wk.tr.rb h0.wk.lg q).2.2.2.2]; decide)).2)
  · rw [P' n (by omega)] at n2
    rcases h.pnw n n1 n2 with ⟨-, j, v2, v3⟩ | ⟨v1, v2⟩
    · exact ⟨id, j, hk, v2, by rw [hnb j v2, v3]⟩
    · rw [v2] at n2 v1
      rw [(h.kw.1 _ (h.w0 n n2)).2] at v1
      obtain ⟨i, j, l1, l2, l3⟩ := h0.led n n1 n2
      obtain ⟨q1, q2, q3⟩ := h0.tok.rng i (by omega)
      have hr := ((h0.tok.ids i q1 q2).fil l1).2.2.rng j l2 (by omega)
      rw [l3] at hr
      have hne : i ≠ id := fun q => v1 (by rw [hr.2.2.2.1, q])
      have hpi : z0.2 6 i ≠ 0 := fun w => by
        have := (h0.tok.ids i q1 q2).pl.mp w
        omega
      refine ⟨i, j, l1, l2, ?_⟩
      rw [(hsame i hne q1 q2 hpi).nb (by rw [((h0.tok.ids i q1 q2).kd (by omega)).1]; omega), l3]
  · exact KC_congr (hpn.2.2.2.2.2.1 7 (by decide) (by decide) (by decide) (by decide) (by decide) (by decide) (by decide) (by decide))
  · rw [hpn.2.2.2.2.1, ndW_lo _ _ _ _ _ (by decide)]
