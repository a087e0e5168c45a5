/-! a file is committed alone -/
theorem WK.chain {z y : NSt} {BP : Nat → Nat → Nat} {T : TRE} {tk : TKS} {PP : Nat → Nat} {ch : List Nat} (h : WK z BP T tk PP ch) {a n kk : Nat} (ha : 13 ≤ a) (hp : PN z a n kk y) (hl : LG y) (hn1 : 1 ≤ n) (hn2 : n < 2048) (ho1 : 1 ≤ z.2 a 61) (ho2 : z.2 a 61 ≤ 250) (ho3 : n ≤ 250 → z.2 a 61 = n) (ho4 : 250 < n → (z.2 6 n ≠ 0 ∧ zV z (z.2 6 n) 61 = z.2 a 61) ∨ (z.2 7 n ≠ 0 ∧ PP n = 0 ∧ ∀ b, b ∈ ch → zV z b 60 ≠ n)) : CHO y PP (ch ++ [z.1 8]) := by
  obtain ⟨h4, h5, h6, h9, hA, hr, hsc, hu, hw0, hu0, h69, h70, hne, h12, -⟩ := _root_.id hp
  have hk := hp.kw
  have s6 : y.1 6 = z.1 6 := hsc 6 (by decide) (by decide) (by decide)
  have s11 : y.1 11 = z.1 11 := hsc 11 (by decide) (by decide) (by decide)
  have s16 : y.1 16 = z.1 16 := hsc 16 (by decide) (by decide) (by decide)
  obtain ⟨w1, w2⟩ := h.co.keepW hk
  have hq : zV y (z.1 8) = cutW (ndW (z.2 a) n kk (z.1 11) (y.1 8)) := by rw [hp.V, if_pos rfl]
  have q60 : zV y (z.1 8) 60 = n := by rw [hq]; rfl
  have q61 : zV y (z.1 8) 61 = z.2 a 61 := by rw [hq]; rfl
  have q62 : zV y (z.1 8) 62 = z.1 11 := by rw [hq]; rfl
  have q63 : zV y (z.1 8) 63 = y.1 8 := by rw [hq]; rfl
  have hnq : ∀ b, b ∈ ch → b ≠ z.1 8 := fun b hb e => by
    have := (h.co.el b hb).1
    rw [e] at this
    omega
  -- one owner
  have own1 : ∀ b, b ∈ ch → zV z b 60 = n → zV z b 61 = z.2 a 61 := fun b hb e => by
    by_cases c : n ≤ 250
    · have := (h.co.el b hb).2.2.2.2.2.2.2.2
      rw [e] at this
      rw [this c, ho3 c]
    · rcases ho4 (by omega) with ⟨g1, g2⟩ | ⟨-, g1, g2⟩
      · have hle := h.co.le n g1
        rcases LE_val (zV z) n ch PP with ⟨v1, v2⟩ | ⟨v1, v2⟩
        · exact absurd e (v2 b hb)
        · rw [← hle] at v1 v2
          rw [h.co.ow b _ hb v1 (by rw [e, v2]), g2]
      · exact absurd e (g2 b hb)
  have own2 : PP n ≠ 0 → zV z (PP n) 61 = z.2 a 61 := fun q => by
    by_cases c : n ≤ 250
    · rw [(h.co.pw n q).2.2.2.2.2.2 c, ho3 c]
    · rcases ho4 (by omega) with ⟨g1, g2⟩ | ⟨-, g1, g2⟩
      · have hle := h.co.le n g1
        rcases LE_val (zV z) n ch PP with ⟨v1, v2⟩ | ⟨v1, v2⟩
        · rw [← v1, ← hle, g2]
        · rw [← hle] at v1 v2
          have := h.co.op _ v1
          rw [v2] at this
          rw [this q, g2]
      · exact absurd g1 q
  have hmem : ∀ b, b ∈ ch ++ [z.1 8] → b ∈ ch ∨ b = z.1 8 := fun b hb => by
    rcases List.mem_append.mp hb with q | q
    · exact Or.inl q
    · exact Or.inr (List.mem_singleton.mp q)
  have hPP : ∀ m, PP m ≠ 0 → PP m ≠ z.1 8 := fun m q e => by
    have := (h.co.pw m q).1
    rw [e] at this
    omega
  have b1 := pkB_le (z.1 11)
  have hK : y.2 7 = z.2 7 := hr 7 (by decide) (by decide) (by decide) (by decide) (by decide) (by decide) (by decide) (by omega)
  have hmv : ∀ b, z.2 5 b ≠ 0 → b ≠ z.1 8 := fun b q e => q (by rw [e]; exact hw0)
  refine ⟨?_, fun b hb => ?_, ?_, fun b c hb hc e => ?_, fun b hb q => ?_, fun m q => ?_, fun m q => ?_, fun m g1 g2 q => ?_, fun m hm => ?_⟩
  · rw [s11, hk.2 _ (by omega)]
    have := chn_app (chn_congr w1 h.co.lk)
    rw [q63] at this
    exact this
  · rcases hmem b hb with q | q
    · rw [w1 b q, s6, s11]
      have := h.co.el b q
      exact ⟨hk.one hl this.1, this.2⟩
    · rw [q, q60, q61, q62, s6, s11]
      refine ⟨?_, h69, h70, rfl, ho1, ho2, hn1, hn2, ho3⟩
      rw [h5, va_up_self]
  · rw [List.nodup_append]
    exact ⟨h.co.nd, by simp, fun b hb c hc => by rw [List.mem_singleton.mp hc]; exact hnq b hb⟩
  · rcases hmem b hb with q | q
    · rcases hmem c hc with q' | q'
      · rw [w1 b q, w1 c q'] at *
        exact h.co.ow b c q q' e
      · rw [q', q60, w1 b q] at e
        rw [q', q61, w1 b q]
        exact own1 b q e
    · rcases hmem c hc with q' | q'
      · rw [q, q60, w1 c q'] at e
        rw [q, q61, w1 c q']
        exact (own1 c q' e.symm).symm
      · rw [q, q']
  · rcases hmem b hb with g | g
    · rw [w1 b g] at q ⊢
      rw [w2 _ q]
      exact h.co.op b g q
    · rw [g, q60] at q ⊢
      rw [q61, w2 _ q]
      exact own2 q
  · rw [w2 m q, s6]
    have := h.co.pw m q
    exact ⟨hk.one hl this.1, this.2⟩
  · rw [LE_app, q60, LE_congr w1]
    rw [h6] at q ⊢
    by_cases c : m = n
    · rw [c, va_up_self, va_up_self]
    · rw [va_up_ne _ _ c] at q ⊢
      rw [va_up_ne _ _ c]
      exact h.co.le m q
  · rw [hK] at q
    obtain ⟨v1, v2⟩ := h.co.kp m g1 g2 q
    refine ⟨v1, fun b hb => ?_⟩
    rcases hmem b hb with w | w
    · rw [w1 b w]; exact v2 b w
    · rw [w, q60]
      intro e
      rcases ho4 (by omega) with ⟨x1, x2⟩ | ⟨x1, -, -⟩
      · have hle := h.co.le n x1
        rcases LE_val (zV z) n ch PP with ⟨y1, y2⟩ | ⟨y1, y2⟩
        · rw [y1, e, v1] at hle
          rw [e] at x1
          exact x1 hle
        · exact v2 _ y1 (by rw [y2, e])
      · rw [e] at x1
        exact x1 q
  · rw [hK]; exact h.co.ki m hm
theorem hasM_0 (W : Nat → Nat → Nat) (o : Nat) : hasM W [] o = false := rfl
/-- the marked inode of a file: what mounting finds then -/
theorem REC.mark {z y : NSt} {T R : TRE} {tk : TKS} {PP : Nat → Nat} {ch : List Nat} {f : Nat} {BP : Nat → Nat → Nat} (hw : WK z BP R tk PP ch) (hBP : BP = BPL (zV y) (y.2 6)) (hpn : PN z 13 f 1 y) (hl : LG y) (htr : TR (y.2 6) BP (y.2 9)) (ht : TOK (zV y) (y.2 6) T) (hc : CHO y PP (ch ++ [z.1 8])) (hk : T.kd f = 1) (hkr : R.kd f = 1) (hlk : R.lk f = T.lk f) (hi61 : z.2 13 61 = f) : REC y BP PP (ch ++ [z.1 8]) (R.wFil (va_up R.fil f (T.fil f))) := by
  obtain ⟨g1, g2, g3⟩ := ht.rng f (by omega)
  have hkw := hpn.kw
  obtain ⟨w1, w2⟩ := hw.co.keepW hkw
  have h69 := hpn.2.2.2.2.2.2.2.2.2.2.1
  have hq : zV y (z.1 8) = cutW (ndW (z.2 13) f 1 (z.1 11) (y.1 8)) := by rw [hpn.V, if_pos rfl]
  have q59 : zV y (z.1 8) 59 = 1 := by rw [hq]; rfl
  have q60 : zV y (z.1 8) 60 = f := by rw [hq]; rfl
  have q61 : zV y (z.1 8) 61 = f := by rw [hq]; exact hi61
  have hrz : rP z PP ch = fwd (zV y) PP ch := (fwd_congr w1 PP).symm
  have hch : ∀ c, c ∈ ch → c ∈ ch ++ [z.1 8] := fun c hc' => List.mem_append.mpr (Or.inl hc')
  -- numbers of others
  have hothI : ∀ i, i ≤ 250 → i ≠ f → rP y PP (ch ++ [z.1 8]) i = rP z PP ch i := fun i hi hne => by
    rw [hrz]
    refine fwd_mkB (o := f) q61 (by rw [q60]; exact Ne.symm hne) ch PP PP rfl (fun c hc' e => ?_)
    have := (hc.el c (hch c hc')).2.2.2.2.2.2.2.2
    rw [e] at this
    rw [this hi]; exact hne
  have hothN : ∀ n o, 250 < n → o ≠ f → rP z PP ch n ≠ 0 → zV z (rP z PP ch n) 61 = o → rP y PP (ch ++ [z.1 8]) n = rP z PP ch n := fun n o hn ho h0 h61 => by
    rw [hrz]
    refine fwd_mkB (o := f) q61 (by rw [q60]; omega) ch PP PP rfl (fun c hc' e => ?_)
    rw [w1 c hc'] at e ⊢
    rcases fwd_val (zV z) n ch PP with v | ⟨v1, v2, -⟩
    · have v : rP z PP ch n = PP n := v
      rw [v] at h0 h61
      have := hw.co.op c hc'
      rw [e] at this
      rw [← this h0, h61]; exact ho
    · have e2 := hw.co.ow c _ hc' v1 (by rw [e, v2])
      have h61 : zV z (fwd (zV z) PP ch n) 61 = o := h61
      rw [e2, h61]; exact ho
  -- numbers of this file
  have hown : ∀ n, y.2 6 n ≠ 0 → zV y (y.2 6 n) 61 = f → rP y PP (ch ++ [z.1 8]) n = y.2 6 n := fun n h0 h61 => by
    have hle := hc.le n h0
    refine (fwd_mkA (o := f) q59 q61 ch PP PP rfl (fun c hc' e => ?_)).trans hle.symm
    rcases LE_val (zV y) n (ch ++ [z.1 8]) PP with ⟨v1, v2⟩ | ⟨v1, v2⟩
    · exact absurd e (v2 c (hch c hc'))
    · rw [← hle] at v1 v2
      rw [hc.ow c _ (hch c hc') v1 (by rw [e, v2]), h61]
  have hRk : (R.wFil (va_up R.fil f (T.fil f))).kd = R.kd := rfl
  have hsf : SAME (zV y) (zV y) (y.2 6) (rP y PP (ch ++ [z.1 8])) f := by
    have hi := ht.ids f g1 g2
    have hp0 : y.2 6 f ≠ 0 := fun q => by
      have := hi.pl.mp q
      omega
    refine ⟨hown f hp0 (hi.kd (by omega)).2.2, rfl, fun _ j hj q => ⟨?_, rfl⟩⟩
    have hr := (hi.fil hk).2.2.rng j hj q
    exact hown _ hr.2.2.1 hr.2.2.2.1
  have hso : ∀ i, i ≠ f → 1 ≤ i → i ≤ 250 → rP z PP ch i ≠ 0 → SAME (zV z) (zV y) (rP z PP ch) (rP y PP (ch ++ [z.1 8])) i := fun i hne v1 v2 v3 => by
    have hi := hw.rc.tok.ids i v1 v2
    have hk' : R.kd i ≠ 0 := fun q => v3 (hi.pl.mpr q)
    refine ⟨hothI i v2 hne, (hkw.1 _ (by rw [(hw.co.rp i v3).1]; decide)).2, fun w j hj q => ?_⟩
    rw [(hi.kd hk').1] at w
    have h3 := (hw.rc.tok.rng i hk').2.2
    have hr := (hi.fil (by omega)).2.2.rng j hj q
    exact ⟨hothN _ i hr.1 hne hr.2.2.1 hr.2.2.2.1, (hkw.1 _ (by rw [(hw.co.rp _ hr.2.2.1).1]; decide)).2⟩
  have hbf : ∀ k, BPL (zV y) (rP y PP (ch ++ [z.1 8])) f k = BP f k := fun k => by rw [hBP]; exact hsf.bpl k
  have hbo : ∀ i, i ≠ f → ∀ k, BPL (zV y) (rP y PP (ch ++ [z.1 8])) i k = BPL (zV z) (rP z PP ch) i k := fun i hne k => by
    by_cases c : rP z PP ch i = 0 ∨ 250 < i
    · rw [BPL_0 c]
      by_cases c2 : 250 < i
      · rw [BPL_0 (Or.inr c2)]
      · rw [BPL_0 (Or.inl (by rw [hothI i (by omega) hne]; omega))]
    · have c1 : i ≠ 0 := fun q => c (Or.inl (by rw [q]; exact hw.co.rp0))
      exact (hso i hne (by omega) (by omega) (fun q => c (Or.inl q))).bpl k
  have s6 : y.1 6 = z.1 6 := hpn.2.2.2.2.2.2.1 6 (by decide) (by decide) (by decide)
  have hu9 : ∀ b, z.2 5 b ≠ 0 → y.2 9 b ≠ 0 → z.2 9 b ≠ 0 := fun b q u => by
    rw [hpn.2.2.2.1] at u
    have hne : b ≠ z.1 8 := fun e => q (by rw [e]; exact hpn.2.2.2.2.2.2.2.2.1)
    by_cases c : b = z.2 6 f
    · rw [c, va_up_self] at u; exact absurd rfl u
    · rwa [va_up_ne _ _ c, va_up_ne _ _ hne] at u
  have s9 : y.1 9 = z.1 9 := hpn.2.2.2.2.2.2.1 9 (by decide) (by decide) (by decide)
  have hd2 : ∀ d, y.2 9 d = 2 → z.2 9 d = 2 := fun d q => by
    rw [hpn.2.2.2.1] at q
    by_cases c : d = z.2 6 f
    · rw [c, va_up_self] at q; omega
    · rw [va_up_ne _ _ c] at q
      by_cases c8 : d = z.1 8
      · rw [c8, va_up_self] at q; omega
      · rwa [va_up_ne _ _ c8] at q
  -- a block of another file, as mounting finds it, is no block of this one
  have hdis : ∀ i, i ≠ f → ∀ k k', BPL (zV z) (rP z PP ch) i k ≠ 0 → BPL (zV z) (rP z PP ch) i k ≠ BP f k' := fun i hne k k' h0 e => by
    have hu : y.2 9 (BP f k') = 2 := (htr.2.2.1 _).mpr ⟨by rw [← e]; exact h0, f, k', rfl⟩
    have hz : z.2 9 (BPL (zV z) (rP z PP ch) i k) ≠ 0 := hu9 _ (by rw [(hw.rc.wr i k h0).1]; decide) (by rw [e, hu]; decide)
    obtain ⟨k2, e2⟩ := hw.rc.s1 i k h0 hz
    have := hw.tr.2.2.2 i k2 f k' (by rw [e2]; exact h0) (by rw [e2, e])
    exact hne this.1
  have hmem : ∀ b, b ∈ ch ++ [z.1 8] → b ∈ ch ∨ b = z.1 8 := fun b hb => by
    rcases List.mem_append.mp hb with q | q
    · exact Or.inl q
    · exact Or.inr (List.mem_singleton.mp q)
  have pw0 : z.2 5 (z.1 8) = 0 := hpn.2.2.2.2.2.2.2.2.1
  have hold : ∀ b, b ∈ ch ++ [z.1 8] ∨ (∃ n, PP n = b ∧ b ≠ 0) → ((b ∈ ch ∨ (∃ n, PP n = b ∧ b ≠ 0)) ∧ z.2 5 b ≠ 0) ∨ b = z.1 8 := fun b q => by
    rcases q with q | ⟨n, q1, q2⟩
    · rcases hmem b q with v | v
      · exact Or.inl ⟨Or.inl v, by rw [(hw.co.el b v).1]; decide⟩
      · exact Or.inr v
    · exact Or.inl ⟨Or.inr ⟨n, q1, q2⟩, by rw [← q1] at q2 ⊢; rw [(hw.co.pw n q2).1]; decide⟩
  have hs2 : ∀ b, b ∈ ch ++ [z.1 8] ∨ (∃ n, PP n = b ∧ b ≠ 0) → y.2 9 b ≠ 2 := fun b q => by
    rcases hold b q with ⟨v1, v2⟩ | v
    · intro w
      refine hw.rc.s2 b v1 ?_
      rw [hpn.2.2.2.1] at w
      have hne : b ≠ z.1 8 := fun e => v2 (by rw [e]; exact pw0)
      by_cases c : b = z.2 6 f
      · rw [c, va_up_self] at w; omega
      · rwa [va_up_ne _ _ c, va_up_ne _ _ hne] at w
    · rw [v, hpn.2.2.2.1, va_up_ne _ _ (Ne.symm hpn.2.2.2.2.2.2.2.2.2.2.2.2.1), va_up_self]
      decide
  refine ⟨⟨fun i q => hw.rc.tok.rng i q, fun i v1 v2 => ?_⟩, fun i k i' k' h0 e => ?_, fun i k h0 => ?_, fun i k h0 u => ?_, hs2, fun b q i k w => ?_, fun b q => ?_, fun b q i k h0 => ?_⟩
  · by_cases c : i = f
    · rw [c]
      have hi := ht.ids f g1 g2
      have hp0 : y.2 6 f ≠ 0 := fun q => by
        have := hi.pl.mp q
        omega
      obtain ⟨k0, k58, k61⟩ := hi.kd (by omega)
      obtain ⟨f1, f2, f3⟩ := hi.fil hk
      have hw0 : zV y (y.2 6 f) 0 ≠ 2 := by rw [k0, hk]; decide
      refine ⟨⟨fun q => ?_, fun q => ?_⟩, fun _ => ?_, fun _ => ⟨?_, ?_, hsf.nok hw0 f3⟩, fun q => ?_, fun q n => hw.rc.tok.ids f g1 g2 |>.noe q n⟩
      · rw [hsf.1] at q; exact absurd q hp0
      · have q : R.kd f = 0 := q
        omega
      · rw [hsf.1, k0, hk]
        exact ⟨hkr.symm, k58, k61⟩
      · show FOK (zV y) (zV y (rP y PP (ch ++ [z.1 8]) f)) (bpF (zV y) (rP y PP (ch ++ [z.1 8])) f) (va_up R.fil f (T.fil f) f)
        rw [va_up_self, hsf.1]
        exact f1.keep (fun k hk' => hsf.bp hw0 hk') (fun _ _ _ => rfl)
      · rw [hsf.1, f2]; exact hlk.symm
      · have q : R.kd f = 2 := q
        omega
    · refine (hw.rc.tok.ids i v1 v2).same v2 ⟨rfl, rfl, rfl, rfl, va_up_ne _ _ c⟩ (hso i c v1 v2) (fun q => by rw [hothI i v2 c]; exact q) (fun k q => (hkw.1 _ (by rw [(hw.rc.wr i k q).1]; decide)).2)
  · by_cases c : i = f
    · rw [c, hbf] at h0 e
      by_cases c' : i' = f
      · rw [c', hbf] at e
        have := htr.2.2.2 f k f k' h0 e
        rw [c, c']
        exact ⟨rfl, this.2⟩
      · rw [hbo i' c'] at e
        exact absurd e.symm (hdis i' c' k' k (by rw [← e]; exact h0))
    · rw [hbo i c] at h0 e
      by_cases c' : i' = f
      · rw [c', hbf] at e
        exact absurd e (hdis i c k k' h0)
      · rw [hbo i' c'] at e
        exact hw.rc.inj i k i' k' h0 e
  · by_cases c : i = f
    · rw [c, hbf] at h0 ⊢
      have hr := htr.rb hl h0
      exact ⟨hr.2.2.2.2, hr.1, hr.2.1⟩
    · rw [hbo i c] at h0 ⊢
      have := hw.rc.wr i k h0
      rw [s6]
      exact ⟨hkw.one hl this.1, this.2⟩
  · by_cases c : i = f
    · rw [c, hbf]
      exact ⟨k, rfl⟩
    · rw [hbo i c] at h0 u ⊢
      exact hw.rc.s1 i k h0 (hu9 _ (by rw [(hw.rc.wr i k h0).1]; decide) u)
  · have hb0 : b ≠ 0 := fun v => by
      rcases hold b q with ⟨v1, -⟩ | v1
      · rcases v1 with v1 | ⟨n, -, v2⟩
        · have := (hw.co.el b v1).2.1
          omega
        · exact v2 v
      · omega
    by_cases c : i = f
    · rw [c, hbf] at w
      exact hs2 b q ((htr.2.2.1 b).mpr ⟨hb0, f, k, w⟩)
    · rw [hbo i c] at w
      rcases hold b q with ⟨v1, -⟩ | v1
      · exact hw.rc.nd b v1 i k w
      · have := (hw.rc.wr i k (by rw [w]; exact hb0)).1
        rw [w, v1] at this
        omega
  · rw [s9]
    rcases hold b q with ⟨v1, -⟩ | v1
    · obtain ⟨a1, a2⟩ := hw.rc.s3 b v1
      exact ⟨a1, fun d hd => a2 d (hd2 d hd)⟩
    · rw [v1]
      exact ⟨hw.lg.2.2.2.1, fun d hd => hw.lg.p8 (hd2 d hd)⟩
  · by_cases c : i = f
    · rw [c, hbf] at h0 ⊢
      have hu2 : y.2 9 (BP f k) = 2 := (htr.2.2.1 _).mpr ⟨h0, f, k, rfl⟩
      rcases q with q | q
      · rcases hold b q with ⟨v1, -⟩ | v1
        · exact (hw.rc.s3 b v1).2 _ (hd2 _ hu2)
        · rw [v1]; exact hw.lg.p8 (hd2 _ hu2)
      · rw [q]; exact hl.p8 hu2
    · rw [hbo i c] at h0 ⊢
      rcases q with q | q
      · rcases hold b q with ⟨v1, -⟩ | v1
        · exact hw.rc.n3 b (Or.inl v1) i k h0
        · exact hw.rc.n3 b (Or.inr v1) i k h0
      · rw [q]
        rcases hpn.2.2.2.2.2.2.2.2.2.2.2.2.2.2.1 with c8 | c8
        · rw [c8]; exact hw.rc.n3 _ (Or.inr rfl) i k h0
        · intro w
          have hwr := hw.rc.wr i k h0
          rw [hw.lg.fre c8 hwr.2.1 w] at hwr
          exact absurd hwr.1 (by decide)
theorem commitAlone_s {FU : Nat} (hF : 140000 < FU) {z0 : NSt} {T R : TRE} {tk : TKS} {PP : Nat → Nat} {ch : List Nat} {f : Nat} (h0 : NW z0 T R tk PP ch) (hk : T.kd f = 1) (hkr : R.kd f = 1) (hlr : R.lk f = T.lk f) (hU : 33 ≤ Uz z0) (hse : z0.1 11 < 2 ^ 32) :
    Ev (Fil_commitAlone FU (nI f) (up z0)) fun r => ∃ y b, r = up y ∧ NW y T (R.wFil (va_up R.fil f (T.fil f))) (tk.1, fun o => (tk.2 o || decide (f = o))) PP (ch ++ [b]) ∧ FR z0 y ∧ y.2 8 = z0.2 8 ∧ Uz y + 1 = Uz z0 ∧ KC y = KC z0 := by
  obtain ⟨g1, g2, g3⟩ := h0.tok.rng f (by omega)
  have hi := h0.tok.ids f g1 g2
  obtain ⟨hfo, hlk, hno⟩ := hi.fil hk
  have hp0 : z0.2 6 f ≠ 0 := fun q => by
    have := hi.pl.mp q
    omega
  obtain ⟨k0, -, -⟩ := hi.kd (by omega)
  have hbF : ∀ k, k < 412 → BPL (zV z0) (z0.2 6) f k = bpF (zV z0) (z0.2 6) f k := fun k hk' => BPL_f hp0 g2 (by rw [k0, hk]; decide) hk'
  unfold Fil_commitAlone
  refine (begin_s hF h0 hk).bd ?_
  rintro _ ⟨z, rfl, hz, z13, z14, z15, zI, za, zu, -⟩
  have hV : zV z = zV z0 := funext (zV_congr (za 4 (by decide) (by decide)))
  have hfz : FOK (zV z) (z.2 13) (BPL (zV z0) (z0.2 6) f) (T.fil f) := by
    rw [hV]
    exact (hfo.keep (W' := zV z0) (bp' := BPL (zV z0) (z0.2 6) f) hbF (fun _ _ _ => rfl)).all (fun i hi' => zI i (by omega))
  have hmc : MIC z z0 R tk PP ch f (BPL (zV z0) (z0.2 6) f) (fun _ => False) := hz.mc.clean (fun j _ _ => by
    rintro (⟨-, -, q⟩ | ⟨-, q⟩) <;> omega)
  have hw := hmc.wk
  have hpz : z.2 6 f ≠ 0 := by rw [hmc.pid f g2]; exact hp0
  unfold Fil_finish Fil_closeNode
  rw [up1, z14, if_pos i00, Option.bind_some, up1, z15, if_pos i00]
  unfold Fil_finish_b34
  rw [up1, hmc.hid, show (1 : Int32) = nI 1 from rfl]
  refine Ev.bd (Ev.bd (putNode_s (k := 1) (by omega) rfl (by decide) hw.lg (by omega) g1 (by omega) (Or.inr (by rw [(hw.p1 hpz).2.2.2]; decide))) (fun r hr => Ev.ret hr)) ?_
  rintro _ ⟨y, rfl, hy, hpn⟩
  have hz11 : z.1 11 = z0.1 11 := hmc.fr.1.1 11 (by decide) (by decide) (by decide) (by decide) (by decide) (by decide) (by decide) (by decide)
  have hc := hw.chain (by decide) hpn hy g1 (by omega) (by rw [hmc.i0.2.2]; exact g1) (by rw [hmc.i0.2.2]; exact g2) (fun _ => hmc.i0.2.2) (fun q => by omega)
  obtain ⟨hBP, ht, hl⟩ := finTree h0 hmc hk hfz (by rw [zI 2 (by decide), hlk]) hpn
  have eT : T.wFil (va_up T.fil f (T.fil f)) = T := by
    rw [up_id]
    rfl
  rw [eT] at ht hl
  have htr : TR (y.2 6) (va_up (BPL (zV z0) (z0.2 6)) f (BPL (zV z0) (z0.2 6) f)) (y.2 9) := by
    rw [hpn.2.2.1, hpn.2.2.2.1]
    have e8 := hw.lg.end8
    exact hw.tr.node e8.2.2.2.2 (by omega) hw.lg.u0
  have hrec := REC.mark hw hBP hpn hy htr ht hc hk hkr hlr hmc.i0.2.2
  obtain ⟨p4, p5, p6, p9, pA, pr, ps, pu, pw0, pu0, p69, p70, pne, p12, -⟩ := _root_.id hpn
  have hnu : NUM (zV y) (y.2 6) := fun m hm => by
    rw [p6] at hm ⊢
    by_cases c : m = f
    · rw [c, va_up_self]
      refine ⟨g1, by omega, ?_⟩
      rw [hpn.V, if_pos rfl]
      rfl
    · rw [va_up_ne _ _ c] at hm ⊢
      obtain ⟨a1, a2, a3⟩ := hw.nu m hm
      refine ⟨a1, a2, ?_⟩
      rw [(hpn.kw.1 _ (by rw [(hw.p1 hm).1]; decide)).2]
      exact a3
  have hhm : ∀ o, hasM (zV y) (ch ++ [z.1 8]) o = (tk.2 o || decide (f = o)) := fun o => by
    have hq : zV y (z.1 8) = cutW (ndW (z.2 13) f 1 (z.1 11) (y.1 8)) := by rw [hpn.V, if_pos rfl]
    have q59 : zV y (z.1 8) 59 = 1 := by rw [hq]; rfl
    have q61 : zV y (z.1 8) 61 = f := by rw [hq]; exact hmc.i0.2.2
    rw [hasM_app, q59, q61, hasM_congr (hw.co.keepW hpn.kw).1, hw.hm]
    simp only [true_and]
  have hwy : WK y (va_up (BPL (zV z0) (z0.2 6)) f (BPL (zV z0) (z0.2 6) f)) (R.wFil (va_up R.fil f (T.fil f))) (tk.1, fun o => (tk.2 o || decide (f = o))) PP (ch ++ [z.1 8]) := ⟨hy, htr, hnu, hpn.wd hy ⟨by decide, by decide⟩ hw.wd (by omega) (by decide) (by omega), hw.pk.keep hpn.kw (ps 6 (by decide) (by decide) (by decide)) (ps 11 (by decide) (by decide) (by decide)) (ps 16 (by decide) (by decide) (by decide)) p12, hc, hrec, hhm⟩
  rw [hBP] at hwy
  refine Ev.ret ⟨y, z.1 8, rfl, ⟨hwy, ht, hl⟩, hmc.fr.1.trans (hpn.fr (by decide)).1, by rw [(hpn.fr (by decide)).2, hmc.fr.2], by omega, ?_⟩
  · rw [KC_congr (pr 7 (by decide) (by decide) (by decide) (by decide) (by decide) (by decide) (by decide) (by decide)), KC_congr (za 7 (by decide) (by decide))]
