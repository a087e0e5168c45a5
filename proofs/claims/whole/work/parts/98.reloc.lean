/-! the tree is the same when a node has moved -/
theorem FOK.move {W W' : Nat → Nat → Nat} {I J bp bp' : Nat → Nat} {f : FV} (h : FOK W I bp f) (h0 : ∀ k, k < 412 → (bp' k = 0 ↔ bp k = 0)) (hw : ∀ k, k < 412 → bp k ≠ 0 → W' (bp' k) = W (bp k)) (hJ : ∀ i, i = 1 ∨ i = 3 ∨ i = 4 ∨ (30 ≤ i ∧ i < 54) → J i = I i) : FOK W' J bp' f := by
  have hif : ∀ k, k < 412 → (if bp' k = 0 then 0 else 1) = (if bp k = 0 then 0 else 1) := fun k hk => by
    by_cases c : bp k = 0
    · rw [if_pos c, if_pos ((h0 k hk).mpr c)]
    · rw [if_neg c, if_neg (fun q => c ((h0 k hk).mp q))]
  refine FOK.cong (I := I) ⟨h.sz, h.szb, h.sml, h.smb, fun q => ⟨(h.small q).1, fun k hk => (h0 k hk).mpr ((h.small q).2 k hk)⟩, fun k hk => by rw [hif k hk]; exact h.has k hk, ?_, fun k hk q => h.lim k hk (fun v => q ((h0 k hk).mpr v)), fun i hi => ?_, h.zer, h.inl, h.pos⟩ hJ
  · rw [h.there]
    exact (sm_congr hif).symm
  · rw [← h.byt i hi]
    unfold byI byB
    by_cases c : I 3 = 1
    · rw [if_pos c, if_pos c]
    · rw [if_neg c, if_neg c]
      by_cases d : bp (i / 256) = 0
      · rw [if_pos d, if_pos ((h0 _ (by omega)).mpr d)]
      · rw [if_neg d, if_neg (fun q => d ((h0 _ (by omega)).mp q)), hw _ (by omega) d]
theorem DOK.move {W W' : Nat → Nat → Nat} {I J e : Nat → Nat} (h : DOK W I e) (h1 : J 1 = I 1) (h0 : ∀ s, s < 48 → (J (6 + s) = 0 ↔ I (6 + s) = 0)) (hd : ∀ s, s < 48 → I (6 + s) ≠ 0 → J (6 + s) / 4096 = I (6 + s) / 4096 ∧ J (6 + s) % 4096 ≠ 0 ∧ W' (J (6 + s) % 4096) = W (I (6 + s) % 4096)) : DOK W' J e := by
  have hn : ∀ s, s < 48 → I (6 + s) ≠ 0 → nmE W' (J (6 + s) % 4096) = nmE W (I (6 + s) % 4096) := fun s hs q => by
    unfold nmE
    rw [(hd s hs q).2.2]
  have hz : ∀ s, s < 48 → J (6 + s) ≠ 0 → I (6 + s) ≠ 0 := fun s hs q v => q ((h0 s hs).mpr v)
  refine ⟨fun s hs q => ?_, fun n hn' => ?_, fun s s' hs hs' q q' e' => ?_, ?_⟩
  · have q' := hz s hs q
    obtain ⟨d1, d2, d3⟩ := hd s hs q'
    obtain ⟨-, a2, a3, a4, a5, a6⟩ := h.slot s hs q'
    rw [hn s hs q', d1, d3]
    exact ⟨d2, a2, a3, a4, a5, a6⟩
  · obtain ⟨s, hs, q, e'⟩ := h.all n hn'
    exact ⟨s, hs, fun v => q ((h0 s hs).mp v), by rw [hn s hs q]; exact e'⟩
  · rw [hn s hs (hz s hs q), hn s' hs' (hz s' hs' q')] at e'
    exact h.dis s s' hs hs' (hz s hs q) (hz s' hs' q') e'
  · rw [h1, h.siz]
    refine sm_congr (fun s hs => ?_)
    by_cases c : I (6 + s) = 0
    · rw [if_pos c, if_pos ((h0 s hs).mpr c)]
    · rw [if_neg c, if_neg (fun q => c ((h0 s hs).mp q))]
theorem NW.keep {z x : NSt} {T R : TRE} {tk : TKS} {PP : Nat → Nat} {ch ch' : List Nat} (h : NW z T R tk PP ch) (hw : WK x (BPL (zV z) (z.2 6)) R tk PP ch') (kw : KW z x) (e6 : x.2 6 = z.2 6) : NW x T R tk PP ch' ∧ BPL (zV x) (x.2 6) = BPL (zV z) (z.2 6) := by
  have hP : ∀ n, z.2 6 n ≠ 0 → zV x (z.2 6 n) = zV z (z.2 6 n) := fun n q => (kw.1 _ (by rw [(h.wk.p1 q).1]; decide)).2
  obtain ⟨t1, t2⟩ := h.tok.keep (W' := zV x) h.p0 hP (fun i k q => (kw.1 _ (by rw [(h.wk.tr.rb h.wk.lg q).2.2.2.2]; decide)).2)
  have eb : BPL (zV x) (x.2 6) = BPL (zV z) (z.2 6) := by
    funext i k
    rw [e6]; exact t2 i k
  refine ⟨⟨by rw [eb]; exact hw, by rw [e6]; exact t1, fun n n1 n2 => ?_⟩, eb⟩
  rw [e6] at n2
  obtain ⟨i, j, l1, l2, l3⟩ := h.led n n1 n2
  obtain ⟨q1, q2, q3⟩ := h.tok.rng i (by omega)
  have hpi : z.2 6 i ≠ 0 := fun w' => by
    have := (h.tok.ids i q1 q2).pl.mp w'
    omega
  refine ⟨i, j, l1, l2, ?_⟩
  rw [e6, (h.tok.same hP q1 q2 hpi).nb (by rw [((h.tok.ids i q1 q2).kd (by omega)).1]; omega), l3]
/-- what stands in a directory's slot -/
def slN (z : NSt) (d t : Nat) : Nat := if zV z (z.2 6 d) (6 + t) = 0 then 0 else 1 + nmE (zV z) (zV z (z.2 6 d) (6 + t) % 4096)
def SLK (T : TRE) (z y : NSt) : Prop := ∀ d t, T.kd d = 2 → t < 48 → slN y d t = slN z d t
theorem SLK.rf (T : TRE) (z : NSt) : SLK T z z := fun _ _ _ _ => rfl
theorem SLK.trans {T : TRE} {x y z : NSt} (h : SLK T x y) (g : SLK T y z) : SLK T x z := fun d t hd ht => (g d t hd ht).trans (h d t hd ht)
theorem SLK.keep {T : TRE} {z y : NSt} (ht : TOK (zV z) (z.2 6) T) (h6 : ∀ d, T.kd d = 2 → y.2 6 d = z.2 6 d) (hp : ∀ n, z.2 6 n ≠ 0 → zV y (z.2 6 n) = zV z (z.2 6 n)) (hb : ∀ i k, BPL (zV z) (z.2 6) i k ≠ 0 → zV y (BPL (zV z) (z.2 6) i k) = zV z (BPL (zV z) (z.2 6) i k)) : SLK T z y := fun d t hd ht' => by
  obtain ⟨g1, g2, -⟩ := ht.rng d (by omega)
  have hi := ht.ids d g1 g2
  have hp0 : z.2 6 d ≠ 0 := fun q => by
    have := hi.pl.mp q
    omega
  unfold slN
  rw [h6 d hd, hp d hp0]
  by_cases c : zV z (z.2 6 d) (6 + t) = 0
  · rw [if_pos c, if_pos c]
  · rw [if_neg c, if_neg c]
    have hb2 := BPL_d (W := zV z) (P := z.2 6) hp0 g2 (by rw [(hi.kd (by omega)).1, hd]) ht'
    have h3 := hb d t
    rw [hb2] at h3
    unfold nmE
    rw [h3 ((hi.dir hd).1.slot t ht' c).1]
theorem NW.slk {z y : NSt} {T R : TRE} {tk : TKS} {PP : Nat → Nat} {ch : List Nat} (h : NW z T R tk PP ch) (kw : KW z y) (h6 : ∀ d, T.kd d = 2 → y.2 6 d = z.2 6 d) : SLK T z y :=
  SLK.keep h.tok h6 (fun n q => (kw.1 _ (by rw [(h.wk.p1 q).1]; decide)).2) (fun i k q => (kw.1 _ (by rw [(h.wk.tr.rb h.wk.lg q).2.2.2.2]; decide)).2)
/-- whose node a number is, and which of its blocks it leads to -/
def CRD (z : NSt) (T : TRE) (n id base fr hi : Nat) : Prop := 1 ≤ id ∧ id ≤ 250 ∧ T.kd id ≠ 0 ∧ fr ≤ hi ∧ hi ≤ 56 ∧ (∀ i, fr ≤ i → i < hi → BPL (zV z) (z.2 6) id (base + (i - fr)) = zV z (z.2 6 n) i % 4096) ∧ zV z (z.2 6 n) 61 = id ∧ ((n = id ∧ base = 0 ∧ fr = 6 ∧ ((T.kd id = 2 ∧ hi = 54) ∨ (T.kd id = 1 ∧ hi = 26)) ∧ zV z (z.2 6 n) 58 = 0) ∨ (250 < n ∧ T.kd id = 1 ∧ fr = 0 ∧ ((hi = 56 ∧ ∃ j, 1 ≤ j ∧ j ≤ 7 ∧ NB (zV z) (z.2 6) id j = n ∧ base = 20 + 56 * (j - 1) ∧ zV z (z.2 6 n) 58 = 1) ∨ (hi = 0 ∧ base = 0 ∧ NB (zV z) (z.2 6) id 0 = n ∧ zV z (z.2 6 n) 58 = 2))))
theorem crd_ex {z : NSt} {T R : TRE} {tk : TKS} {PP : Nat → Nat} {ch : List Nat} (h : NW z T R tk PP ch) {n : Nat} (hn : z.2 6 n ≠ 0) : ∃ id base fr hi, CRD z T n id base fr hi ∧ fr = pFr (zV z (z.2 6 n) 58) ∧ hi = fr + pNo (zV z (z.2 6 n) 58) (zV z (z.2 6 n) 0) ∧ zV z (z.2 6 n) 58 ≤ 2 ∧ zV z (z.2 6 n) 0 < 2 ^ 32 := by
  obtain ⟨n1, n2, n3⟩ := h.wk.nu n hn
  have h32 : zV z (z.2 6 n) 0 < 2 ^ 32 := zV_lt (h.wk.wd 4 (by decide) (by decide)) _ _
  by_cases c : n ≤ 250
  · have hi := h.tok.ids n n1 c
    have hk : T.kd n ≠ 0 := fun q => hn (hi.pl.mpr q)
    obtain ⟨k0, k58, k61⟩ := hi.kd hk
    obtain ⟨-, -, g3⟩ := h.tok.rng n hk
    rcases g3 with q | q
    · refine ⟨n, 0, 6, 26, ⟨n1, c, hk, by decide, by decide, fun i a b => ?_, k61, Or.inl ⟨rfl, rfl, rfl, Or.inr ⟨q, rfl⟩, k58⟩⟩, ?_, ?_, by rw [k58]; decide, h32⟩
      · have eb := BPL_f (W := zV z) (P := z.2 6) (k := 0 + (i - 6)) hn c (by rw [k0, q]; decide) (by omega)
        have e1 : bpF (zV z) (z.2 6) n (0 + (i - 6)) = zV z (z.2 6 n) i := by
          unfold bpF
          rw [if_pos (by omega), show 6 + (0 + (i - 6)) = i by omega]
        rw [eb, e1]
        by_cases w : zV z (z.2 6 n) i = 0
        · rw [w]
        · have hr := h.wk.tr.rb h.wk.lg (n := n) (i := 0 + (i - 6)) (by rw [eb, e1]; exact w)
          rw [eb, e1] at hr
          omega
      · rw [k58]; rfl
      · rw [k58, k0, q]; rfl
    · refine ⟨n, 0, 6, 54, ⟨n1, c, hk, by decide, by decide, fun i a b => ?_, k61, Or.inl ⟨rfl, rfl, rfl, Or.inl ⟨q, rfl⟩, k58⟩⟩, ?_, ?_, by rw [k58]; decide, h32⟩
      · rw [BPL_d hn c (by rw [k0, q]) (by omega), show 6 + (0 + (i - 6)) = i by omega]
      · rw [k58]; rfl
      · rw [k58, k0, q]; rfl
  · obtain ⟨id, j, l1, l2, l3⟩ := h.led n (by omega) hn
    obtain ⟨q1, q2, q3⟩ := h.tok.rng id (by omega)
    have hno := ((h.tok.ids id q1 q2).fil l1).2.2
    have hr := hno.rng j l2 (by omega)
    rw [l3] at hr
    by_cases j0 : j = 0
    · rw [if_pos j0] at hr
      rw [j0] at l3
      refine ⟨id, 0, 0, 0, ⟨q1, q2, by omega, by decide, by decide, fun i a b => by omega, hr.2.2.2.1, Or.inr ⟨by omega, l1, rfl, Or.inr ⟨rfl, rfl, l3, hr.2.2.2.2⟩⟩⟩, ?_, ?_, by rw [hr.2.2.2.2]; decide, h32⟩
      · rw [hr.2.2.2.2]; rfl
      · rw [hr.2.2.2.2]; rfl
    · rw [if_neg j0] at hr
      refine ⟨id, 20 + 56 * (j - 1), 0, 56, ⟨q1, q2, by omega, by decide, by decide, fun i a b => ?_, hr.2.2.2.1, Or.inr ⟨by omega, l1, rfl, Or.inl ⟨rfl, j, by omega, l2, l3, rfl, hr.2.2.2.2⟩⟩⟩, ?_, ?_, by rw [hr.2.2.2.2]; decide, h32⟩
      · have eb := BPL_nd h l1 (j := j) (i := i) (by omega) l2 (by omega)
        rw [l3, if_neg (by omega)] at eb
        rw [Nat.sub_zero, eb]
        by_cases w : zV z (z.2 6 n) i = 0
        · rw [w]
        · have hr' := h.wk.tr.rb h.wk.lg (n := id) (i := 20 + 56 * (j - 1) + i) (by rw [eb]; exact w)
          rw [eb] at hr'
          omega
      · rw [hr.2.2.2.2]; rfl
      · rw [hr.2.2.2.2]; rfl
theorem NW.reloc {z x y : NSt} {T R : TRE} {tk : TKS} {PP : Nat → Nat} {ch : List Nat} {n id base fr hi : Nat} {bp : Nat → Nat} (h : NW z T R tk PP ch) (hn : z.2 6 n ≠ 0) (hc : CRD z T n id base fr hi) (hx : MVL z x R tk PP ch n id base fr hi bp) (hpn : PN x 20 n 0 y) (hl : LG y) (hse : x.1 11 < 2 ^ 32) : NW y T R tk PP (ch ++ [x.1 8]) := by
  obtain ⟨i1, i2, ik, c1, c2, c3, c61, cc⟩ := hc
  obtain ⟨n1, n2, n3⟩ := h.wk.nu n hn
  have hi' := h.tok.ids id i1 i2
  have hpi : z.2 6 id ≠ 0 := fun q => ik (hi'.pl.mp q)
  obtain ⟨k0, k58, k61⟩ := hi'.kd ik
  have x6 : x.2 6 = z.2 6 := hx.ar 6 (by decide) (by decide) (by decide) (by decide) (by decide) (by decide) (by decide) (by decide)
  have hVx : ∀ m, z.2 6 m ≠ 0 → zV x (z.2 6 m) = zV z (z.2 6 m) := fun m q => (hx.kw.1 _ (by rw [(h.wk.p1 q).1]; decide)).2
  have x61 : x.2 20 61 = id := by rw [hx.nd 61 (by decide), if_neg (by omega), c61]
  have hwy : WK y (va_up (BPL (zV z) (z.2 6)) id bp) R tk PP (ch ++ [x.1 8]) := hx.wk.node (by decide) hpn hl n1 n2 (by rw [x61]; exact i1) (by rw [x61]; exact i2) (fun q => by
    rw [x61]
    rcases cc with ⟨v, -⟩ | ⟨v, -⟩
    · exact v.symm
    · omega) (fun q => Or.inl ⟨by rw [x6]; exact hn, by rw [x6, hVx n hn, x61, c61]⟩) hse
  have hky : KW z y := hx.kw.trans hpn.kw
  have h69 := hpn.2.2.2.2.2.2.2.2.2.2.1
  have P : y.2 6 n = x.1 8 := by rw [hpn.2.2.1, va_up_self]
  have P' : ∀ m, m ≠ n → y.2 6 m = z.2 6 m := fun m q => by rw [hpn.2.2.1, va_up_ne _ _ q, x6]
  have hW : ∀ m, z.2 6 m ≠ 0 → zV y (z.2 6 m) = zV z (z.2 6 m) := fun m q => (hky.1 _ (by rw [(h.wk.p1 q).1]; decide)).2
  have V : zV y (y.2 6 n) = cutW (ndW (x.2 20) n 0 (x.1 11) (y.1 8)) := by rw [P, hpn.V, if_pos rfl]
  have Vn : ∀ j, j < 59 ∨ j = 61 → zV y (y.2 6 n) j = if fr ≤ j ∧ j < hi then zV z (z.2 6 n) j / 4096 * 4096 + bp (base + (j - fr)) else zV z (z.2 6 n) j := fun j hj => by
    rw [← hx.nd j (by omega), V, cutW_lo (by omega)]
    unfold ndW
    rw [if_neg (by omega), if_neg (by omega), if_neg (by omega), if_neg (by omega)]
  have Vo : ∀ j, j < 59 ∨ j = 61 → ¬ (fr ≤ j ∧ j < hi) → zV y (y.2 6 n) j = zV z (z.2 6 n) j := fun j hj q => by rw [Vn j hj, if_neg q]
  have hyn : y.2 6 n ≠ 0 := by omega
  -- the blocks
  have hbz : ∀ k, (bp k = 0 ↔ BPL (zV z) (z.2 6) id k = 0) ∧ (BPL (zV z) (z.2 6) id k ≠ 0 → zV y (bp k) = zV z (BPL (zV z) (z.2 6) id k)) := fun k => by
    by_cases c : base ≤ k ∧ k < base + (hi - fr)
    · obtain ⟨v1, v2, -, -⟩ := hx.b1 k c.1 c.2
      refine ⟨v1, fun v => ?_⟩
      rw [← v2 v]
      have hbk : bp k ≠ 0 := fun v' => v (v1.mp v')
      have hr := hx.wk.tr.rb hx.wk.lg (n := id) (i := k) (by rw [va_up_self]; exact hbk)
      rw [va_up_self] at hr
      exact (hpn.kw.1 _ (by rw [hr.2.2.2.2]; decide)).2
    · rw [hx.b0 k c]
      exact ⟨Iff.rfl, fun v => (hky.1 _ (by rw [(h.wk.tr.rb h.wk.lg v).2.2.2.2]; decide)).2⟩
  -- ids that are not this one
  have hsame : ∀ i, i ≠ id → 1 ≤ i → i ≤ 250 → z.2 6 i ≠ 0 → SAME (zV z) (zV y) (z.2 6) (y.2 6) i := fun i q v1 v2 v3 => by
    have hi2 := h.tok.ids i v1 v2
    have hk' : T.kd i ≠ 0 := fun w => v3 (hi2.pl.mpr w)
    have hin : i ≠ n := fun w => by
      rcases cc with ⟨v, -⟩ | ⟨v, -⟩
      · exact q (by rw [w, v])
      · omega
    refine ⟨P' i hin, hW i v3, fun w j hj v => ?_⟩
    rw [(hi2.kd hk').1] at w
    have h3 := (h.tok.rng i hk').2.2
    have hr := (hi2.fil (by omega)).2.2.rng j hj v
    refine ⟨P' _ (fun w' => ?_), hW _ hr.2.2.1⟩
    rw [w', c61] at hr
    exact q hr.2.2.2.1.symm
  have hnid : n ≠ id → y.2 6 id = z.2 6 id ∧ zV y (y.2 6 id) = zV z (z.2 6 id) := fun q => by
    rw [P' id (Ne.symm q)]
    exact ⟨rfl, hW id hpi⟩
  have hbl : ∀ k, BPL (zV z) (z.2 6) id k < 2117 := fun k => by
    by_cases c : BPL (zV z) (z.2 6) id k = 0
    · omega
    · exact (h.wk.tr.rb h.wk.lg c).2.2.1
  have hyi : y.2 6 id ≠ 0 := by
    by_cases q : n = id
    · rw [← q]; exact hyn
    · rw [(hnid q).1]; exact hpi
  have hIo : ∀ j, j < 59 ∨ j = 61 → ¬ (6 ≤ j ∧ j < 54) → zV y (y.2 6 id) j = zV z (z.2 6 id) j := fun j hj q => by
    by_cases e : n = id
    · rw [← e]
      refine Vo j hj (fun v => q ?_)
      rcases cc with ⟨-, -, v1, v2, -⟩ | ⟨v1, -⟩
      · omega
      · omega
    · rw [(hnid e).2]
  have hk0y : zV y (y.2 6 id) 0 = T.kd id := by rw [hIo 0 (by omega) (by omega), k0]
  have fin : (∀ k, BPL (zV y) (y.2 6) id k = bp k) → IDK (zV y) (y.2 6) T id → (T.kd id = 1 → ∀ j, j ≤ 7 → NB (zV y) (y.2 6) id j = NB (zV z) (z.2 6) id j) → NW y T R tk PP (ch ++ [x.1 8]) := by
    intro hB hI hN
    have hbp : ∀ i, i ≠ id → ∀ k, BPL (zV y) (y.2 6) i k = BPL (zV z) (z.2 6) i k := fun i q k => by
      by_cases c : z.2 6 i = 0 ∨ 250 < i
      · rw [BPL_0 c]
        by_cases c9 : 250 < i
        · rw [BPL_0 (Or.inr c9)]
        · have hz : z.2 6 i = 0 := by omega
          have hin : i ≠ n := fun w => hn (by rw [← w]; exact hz)
          rw [BPL_0 (Or.inl (by rw [P' i hin]; exact hz))]
      · have c9 : i ≠ 0 := fun w => c (Or.inl (by rw [w]; exact h.p0))
        exact (hsame i q (by omega) (by omega) (fun w => c (Or.inl w))).bpl k
    have eb : va_up (BPL (zV z) (z.2 6)) id bp = BPL (zV y) (y.2 6) := by
      funext i k
      by_cases c : i = id
      · rw [c, va_up_self, hB k]
      · rw [va_up_ne _ _ c, hbp i c]
    rw [eb] at hwy
    refine ⟨hwy, ⟨h.tok.rng, fun i v1 v2 => ?_⟩, fun m m1 m2 => ?_⟩
    · by_cases c : i = id
      · rw [c]; exact hI
      · refine (h.tok.ids i v1 v2).same v2 (SAMT.rfl' T i) (hsame i c v1 v2) (fun q => ?_) (fun k q => (hky.1 _ (by rw [(h.wk.tr.rb h.wk.lg q).2.2.2.2]; decide)).2)
        have hin : i ≠ n := fun w => hn (by rw [← w]; exact q)
        rw [P' i hin]; exact q
    · have hzm : z.2 6 m ≠ 0 := by
        by_cases c : m = n
        · rw [c]; exact hn
        · rw [P' m c] at m2; exact m2
      obtain ⟨i, j, l1, l2, l3⟩ := h.led m m1 hzm
      obtain ⟨q1, q2, q3⟩ := h.tok.rng i (by omega)
      by_cases c : i = id
      · rw [c] at l1 l3
        exact ⟨id, j, l1, l2, by rw [hN l1 j l2, l3]⟩
      · have hpi2 : z.2 6 i ≠ 0 := fun w' => by
          have := (h.tok.ids i q1 q2).pl.mp w'
          omega
        exact ⟨i, j, l1, l2, by rw [(hsame i c q1 q2 hpi2).nb (by rw [((h.tok.ids i q1 q2).kd (by omega)).1]; omega), l3]⟩
  rcases (h.tok.rng id ik).2.2 with q | q
  · -- a file
    obtain ⟨f1, f2, f3⟩ := hi'.fil q
    have hb1 : ∀ k, k < 412 → BPL (zV z) (z.2 6) id k = bpF (zV z) (z.2 6) id k := fun k hk => BPL_f hpi i2 (by rw [k0, q]; decide) hk
    have hIf : ∀ j, j < 59 ∨ j = 61 → ¬ (6 ≤ j ∧ j < 26) → zV y (y.2 6 id) j = zV z (z.2 6 id) j := fun j hj v => by
      by_cases e : n = id
      · rw [← e]
        refine Vo j hj (fun w => v ?_)
        rcases cc with ⟨-, -, v1, v2, -⟩ | ⟨v1, -⟩ <;> omega
      · rw [(hnid e).2]
    have hIp : ∀ k, k < 20 → zV y (y.2 6 id) (6 + k) = bp k := fun k hk => by
      have e0 : BPL (zV z) (z.2 6) id k = zV z (z.2 6 id) (6 + k) := by
        rw [hb1 k (by omega)]
        unfold bpF
        rw [if_pos hk]
      rcases cc with ⟨v0, v1, v2, v3, -⟩ | ⟨v1, -, v2, v3⟩
      · have := hbl k
        rw [← v0, Vn _ (by omega), if_pos (by omega), v0, ← e0, v1, v2, show 0 + (6 + k - 6) = k by omega]
        omega
      · rw [(hnid (by omega)).2, ← e0]
        refine (hx.b0 k (fun w => ?_)).symm
        rcases v3 with ⟨w1, j, w2, w3, w4, w5, -⟩ | ⟨w1, -⟩ <;> omega
    have hN : ∀ j, j ≤ 7 → NB (zV y) (y.2 6) id j = NB (zV z) (z.2 6) id j := fun j hj => by
      have h28 := hIf 28 (by omega) (by omega)
      unfold NB
      rw [h28]
      by_cases c0 : j = 0
      · rw [if_pos c0, if_pos c0]
      · rw [if_neg c0, if_neg c0]
        by_cases c3 : j < 3
        · rw [if_pos c3, if_pos c3, hIf _ (by omega) (by omega)]
        · rw [if_neg c3, if_neg c3]
          by_cases d : zV z (z.2 6 id) 28 = 0
          · rw [if_pos d, if_pos d]
          · rw [if_neg d, if_neg d]
            have hr := f3.rng 0 (by omega) d
            by_cases e : zV z (z.2 6 id) 28 = n
            · rw [e]
              refine Vo _ (by omega) (fun w => ?_)
              rcases cc with ⟨v0, -⟩ | ⟨v1, -, v2, ⟨w1, j', w2, w3, w4, -⟩ | ⟨w1, -⟩⟩
              · have hr1 : 250 < zV z (z.2 6 id) 28 := hr.1
                omega
              · have := f3.inj 0 j' (by omega) w3 d (by rw [w4]; exact e)
                omega
              · omega
            · rw [P' _ e]
              exact congrFun (hW _ hr.2.2.1) _
    have hbf : ∀ k, k < 412 → bpF (zV y) (y.2 6) id k = bp k := fun k hk => by
      unfold bpF
      by_cases c : k < 20
      · rw [if_pos c, hIp k c]
      · rw [if_neg c, hN _ (by omega)]
        have hb := hb1 k hk
        unfold bpF at hb
        rw [if_neg c] at hb
        obtain ⟨j, ej⟩ : ∃ j, j = 1 + (k - 20) / 56 := ⟨_, rfl⟩
        rw [← ej] at hb ⊢
        by_cases d : NB (zV z) (z.2 6) id j = 0
        · rw [if_pos d] at hb ⊢
          exact ((hbz k).1.mpr hb).symm
        · rw [if_neg d] at hb ⊢
          have hr := f3.rng j (by omega) d
          by_cases e : NB (zV z) (z.2 6) id j = n
          · rw [e] at hb ⊢
            rcases cc with ⟨v0, -⟩ | ⟨v1, -, v2, ⟨w1, j', w2, w3, w4, w5, -⟩ | ⟨w1, -, w4, -⟩⟩
            · have hr1 := hr.1
              omega
            · have ejj := f3.inj j j' (by omega) w3 d (by rw [w4]; exact e)
              have := hbl k
              rw [Vn _ (by omega), if_pos (by omega), ← hb, v2, w5, ← ejj, show 20 + 56 * (j - 1) + ((k - 20) % 56 - 0) = k by omega]
              omega
            · have := f3.inj j 0 (by omega) (by omega) d (by rw [w4]; exact e)
              omega
          · rw [P' _ e, hW _ hr.2.2.1, ← hb]
            refine (hx.b0 k (fun w => ?_)).symm
            rcases cc with ⟨v0, v1, v2, v3, -⟩ | ⟨v1, -, v2, ⟨w1, j', w2, w3, w4, w5, -⟩ | ⟨w1, -⟩⟩
            · omega
            · have : j = j' := by omega
              rw [this, w4] at e
              exact e rfl
            · omega
    have hB : ∀ k, BPL (zV y) (y.2 6) id k = bp k := fun k => by
      by_cases c : k < 412
      · rw [BPL_f hyi i2 (by rw [hk0y, q]; decide) c, hbf k c]
      · have e0 : BPL (zV z) (z.2 6) id k = 0 := by
          refine Classical.byContradiction (fun w => ?_)
          have := (BPL_k w).1
          omega
        have e1 : BPL (zV y) (y.2 6) id k = 0 := by
          refine Classical.byContradiction (fun w => ?_)
          have := (BPL_k w).1
          omega
        rw [e1]
        exact ((hbz k).1.mpr e0).symm
    refine fin hB ⟨⟨fun w => absurd w hyi, fun w => absurd w ik⟩, fun _ => ⟨hk0y, by rw [hIo 58 (by omega) (by omega), k58], by rw [hIo 61 (by omega) (by omega), k61]⟩, fun _ => ⟨?_, by rw [hIo 2 (by omega) (by omega), f2], ?_⟩, fun w => by omega, hi'.noe⟩ (fun _ => hN)
    · refine f1.move (fun k hk => ?_) (fun k hk w => ?_) (fun i hi2 => hIf i (by omega) (by omega))
      · rw [hbf k hk, ← hb1 k hk]; exact (hbz k).1
      · rw [hbf k hk, ← hb1 k hk]
        rw [← hb1 k hk] at w
        exact (hbz k).2 w
    · have hpm : ∀ j, j ≤ 7 → NB (zV z) (z.2 6) id j ≠ 0 → y.2 6 (NB (zV z) (z.2 6) id j) ≠ 0 ∧ ∀ i, (i < 59 ∨ i = 61) → (NB (zV z) (z.2 6) id j = n → ¬ (fr ≤ i ∧ i < hi)) → zV y (y.2 6 (NB (zV z) (z.2 6) id j)) i = zV z (z.2 6 (NB (zV z) (z.2 6) id j)) i := fun j hj w => by
        have hr := f3.rng j hj w
        by_cases e : NB (zV z) (z.2 6) id j = n
        · rw [e]
          exact ⟨hyn, fun i hi2 v => Vo i hi2 (v rfl)⟩
        · rw [P' _ e, hW _ hr.2.2.1]
          exact ⟨hr.2.2.1, fun _ _ _ => rfl⟩
      refine ⟨fun j hj w => ?_, fun j j' hj hj' w e => ?_, fun j j1 hj w => ?_, fun w => ?_⟩
      · rw [hN j hj] at w ⊢
        have hr := f3.rng j hj w
        obtain ⟨v1, v2⟩ := hpm j hj w
        rw [v2 61 (by omega) (fun _ => by omega), v2 58 (by omega) (fun _ => by omega)]
        exact ⟨hr.1, hr.2.1, v1, hr.2.2.2.1, hr.2.2.2.2⟩
      · rw [hN j hj] at w e
        rw [hN j' hj'] at e
        exact f3.inj j j' hj hj' w e
      · rw [hN j hj] at w ⊢
        obtain ⟨i, v1, v2⟩ := f3.ne j j1 hj w
        refine ⟨i, v1, ?_⟩
        have ek := hbf (20 + 56 * (j - 1) + i) (by omega)
        unfold bpF at ek
        rw [if_neg (by omega), show 1 + (20 + 56 * (j - 1) + i - 20) / 56 = j by omega, show (20 + 56 * (j - 1) + i - 20) % 56 = i by omega, hN j hj, if_neg w] at ek
        rw [ek]
        intro v
        have e0 := (hbz _).1.mp v
        rw [BPL_nd h q j1 hj v1, if_neg w] at e0
        exact v2 e0
      · rw [hN 0 (by omega)] at w ⊢
        obtain ⟨v1, i, v2, v3⟩ := f3.ixz w
        obtain ⟨-, u2⟩ := hpm 0 (by omega) w
        have hcn : NB (zV z) (z.2 6) id 0 = n → ¬ (∃ i, fr ≤ i ∧ i < hi) := fun e => by
          rintro ⟨i', w1, w2⟩
          rcases cc with ⟨v0, -⟩ | ⟨-, -, _, ⟨_, j', _, w3, w4, -⟩ | ⟨w4, -⟩⟩
          · have := (f3.rng 0 (by omega) w).1
            omega
          · have := f3.inj 0 j' (by omega) w3 w (by rw [w4]; exact e)
            omega
          · omega
        refine ⟨fun i a b => ?_, i, v2, ?_⟩
        · rw [u2 i (by omega) (fun e w' => hcn e ⟨i, w'⟩)]; exact v1 i a b
        · rw [u2 i (by omega) (fun e w' => hcn e ⟨i, w'⟩)]; exact v3
  · -- a directory
    obtain ⟨f1, f2, f3⟩ := hi'.dir q
    rcases cc with ⟨v0, v1, v2, v3, v4⟩ | ⟨-, v1, -⟩
    · have hi54 : hi = 54 := by omega
      have hb1 : ∀ k, k < 48 → BPL (zV z) (z.2 6) id k = zV z (z.2 6 id) (6 + k) % 4096 := fun k hk => BPL_d hpi i2 (by rw [k0, q]) hk
      have hbl2 : ∀ k, bp k < 2117 := fun k => by
        by_cases c : bp k = 0
        · omega
        · have hr := hx.wk.tr.rb hx.wk.lg (n := id) (i := k) (by rw [va_up_self]; exact c)
          rw [va_up_self] at hr
          exact hr.2.2.1
      have hIs : ∀ s, s < 48 → zV y (y.2 6 id) (6 + s) = zV z (z.2 6 id) (6 + s) / 4096 * 4096 + bp s := fun s hs => by
        rw [← v0, Vn _ (by omega), if_pos (by omega), v1, v2, show 0 + (6 + s - 6) = s by omega]
      have hz6 : ∀ s, s < 48 → zV z (z.2 6 id) (6 + s) ≠ 0 → zV z (z.2 6 id) (6 + s) % 4096 ≠ 0 := fun s hs w => (f1.slot s hs w).1
      have hB : ∀ k, BPL (zV y) (y.2 6) id k = bp k := fun k => by
        by_cases c : k < 48
        · have := hbl2 k
          rw [BPL_d hyi i2 (by rw [hk0y, q]) c, hIs k c]
          omega
        · have e0 : BPL (zV z) (z.2 6) id k = 0 := by
            unfold BPL
            rw [if_neg (by omega), if_pos (by rw [k0, q]), if_neg c]
          have e1 : BPL (zV y) (y.2 6) id k = 0 := by
            unfold BPL
            rw [if_neg (by omega), if_pos (by rw [hk0y, q]), if_neg c]
          rw [e1]
          exact ((hbz k).1.mpr e0).symm
      refine fin hB ⟨⟨fun w => absurd w hyi, fun w => absurd w ik⟩, fun _ => ⟨hk0y, by rw [hIo 58 (by omega) (by omega), k58], by rw [hIo 61 (by omega) (by omega), k61]⟩, fun w => by omega, fun _ => ⟨?_, by rw [hIo 2 (by omega) (by omega), f2], by rw [hIo 3 (by omega) (by omega), f3]⟩, hi'.noe⟩ (fun w => by omega)
      refine f1.move (hIo 1 (by omega) (by omega)) (fun s hs => ?_) (fun s hs w => ?_)
      · rw [hIs s hs]
        have := (hbz s).1
        rw [hb1 s hs] at this
        constructor
        · intro w
          refine Classical.byContradiction (fun w' => ?_)
          have h5 := hz6 s hs w'
          have : bp s ≠ 0 := fun w2 => h5 (this.mp w2)
          omega
        · intro w
          rw [w] at this ⊢
          have := this.mpr rfl
          omega
      · have h5 := hz6 s hs w
        have h6 := hbz s
        rw [hb1 s hs] at h6
        have h7 := hbl2 s
        have h8 : bp s ≠ 0 := fun w2 => h5 (h6.1.mp w2)
        rw [hIs s hs, show (zV z (z.2 6 id) (6 + s) / 4096 * 4096 + bp s) % 4096 = bp s by omega]
        exact ⟨by omega, h8, h6.2 h5⟩
    · omega
theorem NW.reloc_sl {z x y : NSt} {T R : TRE} {tk : TKS} {PP : Nat → Nat} {ch : List Nat} {n id base fr hi : Nat} {bp : Nat → Nat} (h : NW z T R tk PP ch) (hn : z.2 6 n ≠ 0) (hc : CRD z T n id base fr hi) (hx : MVL z x R tk PP ch n id base fr hi bp) (hpn : PN x 20 n 0 y) : SLK T z y := by
  obtain ⟨i1, i2, ik, c1, c2, c3, c61, cc⟩ := hc
  have x6 : x.2 6 = z.2 6 := hx.ar 6 (by decide) (by decide) (by decide) (by decide) (by decide) (by decide) (by decide) (by decide)
  have hky : KW z y := hx.kw.trans hpn.kw
  have P : y.2 6 n = x.1 8 := by rw [hpn.2.2.1, va_up_self]
  have P' : ∀ m, m ≠ n → y.2 6 m = z.2 6 m := fun m q => by rw [hpn.2.2.1, va_up_ne _ _ q, x6]
  intro d t hd ht
  by_cases e : d = n
  · have hnid : n = id ∧ base = 0 ∧ fr = 6 ∧ hi = 54 := by
      rcases cc with ⟨v, v1, v2, v3, -⟩ | ⟨v, -⟩
      · rw [← v, ← e] at v3
        exact ⟨v, v1, v2, by omega⟩
      · have := (h.tok.rng d (by omega)).2.1
        omega
    obtain ⟨rfl, rfl, rfl, rfl⟩ := hnid
    subst e
    have hi' := h.tok.ids d i1 i2
    have hb2 := BPL_d (W := zV z) (P := z.2 6) hn i2 (by rw [(hi'.kd ik).1, hd]) ht
    have V : zV y (y.2 6 d) = cutW (ndW (x.2 20) d 0 (x.1 11) (y.1 8)) := by rw [P, hpn.V, if_pos rfl]
    have Vn : zV y (y.2 6 d) (6 + t) = zV z (z.2 6 d) (6 + t) / 4096 * 4096 + bp t := by
      rw [V, cutW_lo (by omega), ndW_lo _ _ _ _ _ (by omega), hx.nd _ (by omega), if_pos (by omega), show 0 + (6 + t - 6) = t by omega]
    obtain ⟨v1, v2, -, -⟩ := hx.b1 t (by omega) (by omega)
    rw [hb2] at v1 v2
    unfold slN
    by_cases c : zV z (z.2 6 d) (6 + t) = 0
    · have b0 : bp t = 0 := v1.mpr (by rw [c])
      rw [if_pos c, if_pos (by rw [Vn, c, b0])]
    · have hs := ((hi'.dir hd).1.slot t ht c).1
      have hbt : bp t ≠ 0 := fun w => hs (v1.mp w)
      have hr := hx.wk.tr.rb hx.wk.lg (n := d) (i := t) (by rw [va_up_self]; exact hbt)
      rw [va_up_self] at hr
      have hbl := hr.2.2.1
      rw [if_neg c, if_neg (by omega), Vn, show (zV z (z.2 6 d) (6 + t) / 4096 * 4096 + bp t) % 4096 = bp t by omega]
      have e2 : zV y (bp t) = zV z (zV z (z.2 6 d) (6 + t) % 4096) := by
        rw [← v2 hs]
        exact (hpn.kw.1 _ (by rw [hr.2.2.2.2]; decide)).2
      unfold nmE
      rw [e2]
  · have hi' := h.tok.ids d (h.tok.rng d (by omega)).1 (h.tok.rng d (by omega)).2.1
    have hp0 : z.2 6 d ≠ 0 := fun q => by
      have := hi'.pl.mp q
      omega
    unfold slN
    rw [P' d e, (hky.1 _ (by rw [(h.wk.p1 hp0).1]; decide)).2]
    by_cases c : zV z (z.2 6 d) (6 + t) = 0
    · rw [if_pos c, if_pos c]
    · rw [if_neg c, if_neg c]
      have hb2 := BPL_d (W := zV z) (P := z.2 6) hp0 (h.tok.rng d (by omega)).2.1 (by rw [(hi'.kd (by omega)).1, hd]) ht
      have h3 := (h.wk.tr.rb h.wk.lg (n := d) (i := t) (by rw [hb2]; exact ((hi'.dir hd).1.slot t ht c).1)).2.2.2.2
      rw [hb2] at h3
      unfold nmE
      rw [(hky.1 _ (by rw [h3]; decide)).2]
