/-! inodes are made and changed -/
def SAMF (W W' : Nat → Nat → Nat) (P P' : Nat → Nat) (id : Nat) : Prop := (∀ i, 6 ≤ i → i < 29 → W' (P' id) i = W (P id) i) ∧ ∀ j, j ≤ 7 → NB W P id j ≠ 0 → P' (NB W P id j) = P (NB W P id j) ∧ W' (P (NB W P id j)) = W (P (NB W P id j))
theorem SAMF.nb {W W' : Nat → Nat → Nat} {P P' : Nat → Nat} {id : Nat} (h : SAMF W W' P P' id) {j : Nat} (hj : j ≤ 7) : NB W' P' id j = NB W P id j := by
  have h28 := h.1 28 (by decide) (by decide)
  have hz := h.2 0 (by omega)
  rw [NB0] at hz
  unfold NB
  by_cases c0 : j = 0
  · rw [if_pos c0, if_pos c0, h28]
  · rw [if_neg c0, if_neg c0]
    by_cases c : j < 3
    · rw [if_pos c, if_pos c, h.1 _ (by omega) (by omega)]
    · rw [if_neg c, if_neg c, h28]
      by_cases d : W (P id) 28 = 0
      · rw [if_pos d, if_pos d]
      · rw [if_neg d, if_neg d, (hz d).1, (hz d).2]
theorem SAMF.bp {W W' : Nat → Nat → Nat} {P P' : Nat → Nat} {id : Nat} (h : SAMF W W' P P' id) {k : Nat} (hk : k < 412) : bpF W' P' id k = bpF W P id k := by
  unfold bpF
  by_cases c : k < 20
  · rw [if_pos c, if_pos c, h.1 _ (by omega) (by omega)]
  · rw [if_neg c, if_neg c, h.nb (by omega)]
    by_cases d : NB W P id (1 + (k - 20) / 56) = 0
    · rw [if_pos d, if_pos d]
    · rw [if_neg d, if_neg d]
      obtain ⟨e1, e2⟩ := h.2 (1 + (k - 20) / 56) (by omega) d
      rw [e1, e2]
theorem SAMF.nok {W W' : Nat → Nat → Nat} {P P' : Nat → Nat} {id : Nat} (h : SAMF W W' P P' id) (hn : NOK W P id) : NOK W' P' id := by
  refine ⟨fun j hj q => ?_, fun j j' hj hj' q e => ?_, fun j h1 hj q => ?_, fun q => ?_⟩
  · rw [h.nb hj] at q ⊢
    obtain ⟨e1, e2⟩ := h.2 j hj q
    rw [e1, e2]
    exact hn.rng j hj q
  · rw [h.nb hj] at q e
    rw [h.nb hj'] at e
    exact hn.inj j j' hj hj' q e
  · rw [h.nb hj] at q ⊢
    obtain ⟨e1, e2⟩ := h.2 j hj q
    rw [e1, e2]
    exact hn.ne j h1 hj q
  · rw [h.nb (by omega)] at q ⊢
    obtain ⟨e1, e2⟩ := h.2 0 (by omega) q
    rw [e1, e2]
    exact hn.ixz q
theorem FOK.cong {W : Nat → Nat → Nat} {I J bp : Nat → Nat} {f : FV} (h : FOK W I bp f) (hJ : ∀ i, i = 1 ∨ i = 3 ∨ i = 4 ∨ (30 ≤ i ∧ i < 54) → J i = I i) : FOK W J bp f := by
  refine ⟨by rw [hJ 1 (by omega)]; exact h.sz, h.szb, by rw [hJ 3 (by omega)]; exact h.sml, h.smb, h.small, h.has, by rw [hJ 4 (by omega)]; exact h.there, h.lim, fun i hi => ?_, h.zer, fun q j hj => by rw [hJ _ (by omega)]; exact h.inl q j hj, h.pos⟩
  rw [← h.byt i hi]
  unfold byI
  rw [hJ 3 (by omega)]
  by_cases c : I 3 = 1
  · rw [if_pos c, if_pos c]
    by_cases d : i < 96
    · rw [if_pos d, if_pos d]
      exact gb_congr (hJ _ (by omega))
    · rw [if_neg d, if_neg d]
  · rw [if_neg c, if_neg c]
def fv0 : FV := FV.of 0 1 (fun _ => 0) (fun _ => 0)
def newT (T : TRE) (id kind lp : Nat) : TRE := TRE.of (va_up T.kd id kind) (va_up T.lk id lp) (va_up T.par id lp) (va_up T.ent id (fun _ => 0)) (va_up T.fil id fv0)
theorem gb_0 {f : Nat → Nat} {i : Nat} (h : f (i / 4) = 0) : gb f i = 0 := by
  unfold gb
  rw [h, Nat.zero_div]
theorem putNew_t {FU : Nat} (hF : 140000 < FU) {z : NSt} {T R : TRE} {tk : TKS} {PP : Nat → Nat} {ch : List Nat} (h : NW z T R tk PP ch) (hU : 33 ≤ Uz z) (hse : z.1 11 < 2 ^ 32) {id kind lp : Nat} (h1 : 1 ≤ id) (h2 : id ≤ 250) (hk : kind = 1 ∨ kind = 2) (h0 : T.kd id = 0) (hlp : lp < 2 ^ 32) :
    Ev (Tre_putNew FU (nI id) (nI kind) (nI lp) (up z)) fun r => ∃ y ch', r = up y ∧ NW y (newT T id kind lp) R tk PP ch' ∧ FR z y ∧ y.2 8 = z.2 8 ∧ Uz y + 1 = Uz z ∧ y.2 7 = z.2 7 := by
  have hi := h.tok.ids id h1 h2
  have hp0 : z.2 6 id = 0 := hi.pl.mpr h0
  refine (putNew_s (lp := lp) hF h.wk.lg hU h1 h2 hk (Or.inl hp0)).mono ?_
  rintro _ ⟨x, y, rfl, x1, xa, x17, x17', hy, hpn⟩
  have hN : ∀ i, nwI id kind lp i < 2 ^ 32 := fun i => by
    unfold nwI
    repeat' split
    all_goals omega
  have w : WK x (BPL (zV z) (z.2 6)) R tk PP ch := by
    refine h.wk.mem (fun k _ _ => by rw [x1]) (fun c _ _ _ _ => xa c (by omega)) (fun n _ => Or.inl (by rw [xa 7 (by decide)])) (fun c c1 c2 i => ?_)
    by_cases q : c = 17
    · rw [q]
      by_cases q' : i < 64
      · rw [x17 i q']; exact hN i
      · rw [x17' i (by omega)]; exact h.wk.wd 17 (by decide) (by decide) i
    · rw [xa c q]; exact h.wk.wd c c1 c2 i
  have P : y.2 6 id = x.1 8 := by rw [hpn.2.2.1, va_up_self]
  have h69 := hpn.2.2.2.2.2.2.2.2.2.2.1
  have V : zV y (y.2 6 id) = cutW (ndW (x.2 17) id 0 (x.1 11) (y.1 8)) := by rw [P, hpn.V, if_pos rfl]
  have Vlo : ∀ i, i < 59 → zV y (y.2 6 id) i = nwI id kind lp i := fun i hi => by rw [V, cutW_lo (by omega), ndW_lo _ _ _ _ _ hi, x17 i (by omega)]
  have V61 : zV y (y.2 6 id) 61 = id := by
    rw [V]
    show x.2 17 61 = id
    rw [x17 61 (by decide)]
    rfl
  have Vz : ∀ i, i < 59 → i ≠ 0 → i ≠ 2 → i ≠ 3 → zV y (y.2 6 id) i = 0 := fun i hi a b c => by
    rw [Vlo i hi]
    unfold nwI
    rw [if_neg (by omega), if_neg c, if_neg b, if_neg a]
  have V0 : zV y (y.2 6 id) 0 = kind := by rw [Vlo 0 (by decide)]; rfl
  have V2 : zV y (y.2 6 id) 2 = lp := by rw [Vlo 2 (by decide)]; rfl
  have V3 : zV y (y.2 6 id) 3 = if kind = 1 then 1 else 0 := by rw [Vlo 3 (by decide)]; rfl
  have n0 : ∀ j, j ≤ 7 → NB (zV y) (y.2 6) id j = 0 := fun j hj => by
    unfold NB
    rw [Vz 28 (by decide) (by decide) (by decide) (by decide)]
    by_cases c0 : j = 0
    · rw [if_pos c0]
    · rw [if_neg c0]
      by_cases c : j < 3
      · rw [if_pos c, Vz _ (by omega) (by omega) (by omega) (by omega)]
      · rw [if_neg c, if_pos rfl]
  have b0 : ∀ k, k < 412 → bpF (zV y) (y.2 6) id k = 0 := fun k hk => by
    unfold bpF
    by_cases c : k < 20
    · rw [if_pos c, Vz _ (by omega) (by omega) (by omega) (by omega)]
    · rw [if_neg c, if_pos (n0 _ (by omega))]
  have B0 : ∀ k, BPL (zV y) (y.2 6) id k = 0 := fun k => by
    unfold BPL
    rw [if_neg (by omega), V0]
    rcases hk with rfl | rfl
    · rw [if_neg (by decide)]
      by_cases c : k < 412
      · rw [if_pos c, b0 k c]
      · rw [if_neg c]
    · rw [if_pos rfl]
      by_cases c : k < 48
      · rw [if_pos c, Vz _ (by omega) (by omega) (by omega) (by omega)]
      · rw [if_neg c]
  refine ⟨y, _, rfl, h.put (T' := newT T id kind lp) (BP := BPL (zV z) (z.2 6)) (KW.of4 (xa 4 (by decide)) (xa 5 (by decide))) w (xa 6 (by decide)) hpn hy (by decide) h1 h2 (by rw [x1]; exact hse) ?_ (fun i hi' => ⟨va_up_ne _ _ hi', va_up_ne _ _ hi', va_up_ne _ _ hi', va_up_ne _ _ hi', va_up_ne _ _ hi'⟩) ?_ ?_ (fun k => ?_) (fun i _ => rfl) (fun j q => ?_), ?_, ?_, ?_, ?_⟩
  · rw [x17 61 (by decide)]; rfl
  · show va_up T.kd id kind id = 1 ∨ va_up T.kd id kind id = 2
    rw [va_up_self]; exact hk
  · have t1 : (newT T id kind lp).kd id = kind := va_up_self _ _ _
    have t2 : (newT T id kind lp).lk id = lp := va_up_self _ _ _
    have t3 : (newT T id kind lp).par id = lp := va_up_self _ _ _
    have t4 : (newT T id kind lp).ent id = fun _ => 0 := va_up_self _ _ _
    have t5 : (newT T id kind lp).fil id = fv0 := va_up_self _ _ _
    refine ⟨⟨fun q => ?_, fun q => ?_⟩, fun _ => ⟨?_, Vz 58 (by decide) (by decide) (by decide) (by decide), V61⟩, fun q => ⟨?_, ?_, ?_⟩, fun q => ⟨?_, ?_, ?_⟩, fun _ n => ?_⟩
    · omega
    · rw [t1] at q; omega
    · rw [V0, t1]
    · rw [t1] at q
      rw [t5]
      refine ⟨Vz 1 (by decide) (by decide) (by decide) (by decide), by decide, ?_, by decide, fun _ => ⟨by decide, b0⟩, fun k hk => ?_, ?_, fun k hk w => absurd (b0 k hk) w, fun i hi => ?_, fun _ _ => rfl, fun w => ?_, fun w => absurd w (by decide)⟩
      · rw [V3, if_pos q]; rfl
      · rw [b0 k hk, if_pos rfl]; rfl
      · rw [Vz 4 (by decide) (by decide) (by decide) (by decide)]
        exact (sm_zero (fun k hk => by rw [b0 k hk, if_pos rfl])).symm
      · unfold byI
        rw [V3, if_pos q, if_pos rfl]
        by_cases d : i < 96
        · rw [if_pos d]
          exact gb_0 (Vz _ (by omega) (by omega) (by omega) (by omega))
        · rw [if_neg d]; rfl
      · exact absurd w (by decide)
    · rw [V2, t2]
    · exact ⟨fun j hj w => absurd (n0 j hj) w, fun j j' hj _ w => absurd (n0 j hj) w, fun j _ hj w => absurd (n0 j hj) w, fun w => absurd (n0 0 (by decide)) w⟩
    · rw [t4]
      have zs : ∀ s, s < 48 → zV y (y.2 6 id) (6 + s) = 0 := fun s hs => Vz _ (by omega) (by omega) (by omega) (by omega)
      refine ⟨fun s hs w => absurd (zs s hs) w, fun n w => absurd rfl w, fun s s' hs _ w => absurd (zs s hs) w, ?_⟩
      rw [Vz 1 (by decide) (by decide) (by decide) (by decide)]
      exact (sm_zero (fun s hs => by rw [zs s hs, if_pos rfl])).symm
    · rw [V2, t3]
    · rw [t1] at q
      rw [V3, if_neg (by omega)]
    · rw [t4]
  · rw [B0 k, BPL_0 (Or.inl hp0)]
  · omega
  · exact FR.trans ⟨fun k _ _ _ _ _ _ _ _ => by rw [x1], fun c hc => xa c (by omega)⟩ (hpn.fr (by decide)).1
  · rw [(hpn.fr (by decide)).2, xa 8 (by decide)]
  · have := hpn.2.2.2.2.2.2.2.1
    have : Uz x = Uz z := Uz_frame (fun k _ _ => by rw [x1])
    omega
  · rw [hpn.f7 (by decide), xa 7 (by decide)]
theorem putWord_s {FU : Nat} (hF : 140000 < FU) {z : NSt} {T T' R : TRE} {tk : TKS} {PP : Nat → Nat} {ch : List Nat} (h : NW z T R tk PP ch) (hU : 33 ≤ Uz z) (hse : z.1 11 < 2 ^ 32) {id v : Nat} (hk : T.kd id ≠ 0) (hv : v < 2 ^ 32) (hT : ∀ i, i ≠ id → SAMT T T' i) (t1 : T'.kd id = T.kd id) (t4 : T'.ent id = T.ent id) (t5 : T'.fil id = T.fil id) (tl : T.kd id = 1 → T'.lk id = v) (tp : T.kd id = 2 → T'.par id = v) :
    Ev (Tre_putWord FU (nI id) (2 : Int32) (nI v) (up z)) fun r => ∃ y ch', r = up y ∧ NW y T' R tk PP ch' ∧ FR z y ∧ y.2 8 = z.2 8 ∧ Uz y + 1 = Uz z ∧ y.2 7 = z.2 7 := by
  obtain ⟨g1, g2, g3⟩ := h.tok.rng id hk
  have hi := h.tok.ids id g1 g2
  have hp0 : z.2 6 id ≠ 0 := fun q => hk (hi.pl.mp q)
  obtain ⟨k0, k58, k61⟩ := hi.kd hk
  have hpb := h.wk.pb id
  unfold Tre_putWord
  rw [Tab_placeOf_z FU z (by omega), Option.bind_some, plZ_in g1 (by omega), Dev_load_g FU z 17 hpb (by decide), Option.bind_some, show (2 : Int32) = nI 2 from rfl, wrA_z _ 17 (by decide) (by decide), Option.bind_some]
  obtain ⟨x, ex⟩ : ∃ q, q = zA (ldZ z 17 (z.2 6 id)) 17 2 v := ⟨_, rfl⟩
  have w : WK x (BPL (zV z) (z.2 6)) R tk PP ch := by rw [ex]; exact (h.wk.load _ (by decide)).setA (by decide) hv
  have m : ∀ i, i < 64 → x.2 17 i = if i = 2 then v else zV z (z.2 6 id) i := fun i hi => by
    rw [ex, zA2, if_pos rfl]
    unfold va_up
    by_cases c : i = 2
    · rw [if_pos c, if_pos c]
    · rw [if_neg c, if_neg c, ld_a hi, zV_W hi]
  have xa : ∀ c, c ≠ 17 → x.2 c = z.2 c := fun c hc => by rw [ex, zA2, if_neg hc, ld_b hc]
  have x1 : x.1 = z.1 := by rw [ex]; rfl
  have ux : Uz x = Uz z := Uz_frame (fun k _ _ => by rw [x1])
  rw [← ex]
  have hx6 : x.2 6 = z.2 6 := xa 6 (by decide)
  refine (putNode_s (k := 0) (by omega) rfl (by decide) w.lg (by omega) g1 (by omega) (Or.inr (by rw [hx6]; have := (w.p1 (n := id) (by rw [hx6]; exact hp0)).2.2.2; rw [hx6] at this; omega))).bd ?_
  rintro _ ⟨y, rfl, hy, hpn⟩
  have hkx : KW z x := KW.of4 (xa 4 (by decide)) (xa 5 (by decide))
  have hky : KW z y := hkx.trans hpn.kw
  have P : y.2 6 id = x.1 8 := by rw [hpn.2.2.1, va_up_self]
  have P' : ∀ n, n ≠ id → y.2 6 n = z.2 6 n := fun n hn => by rw [hpn.2.2.1, va_up_ne _ _ hn, hx6]
  have h69 := hpn.2.2.2.2.2.2.2.2.2.2.1
  have V : zV y (y.2 6 id) = cutW (ndW (x.2 17) id 0 (x.1 11) (y.1 8)) := by rw [P, hpn.V, if_pos rfl]
  have Vlo : ∀ i, i < 59 → i ≠ 2 → zV y (y.2 6 id) i = zV z (z.2 6 id) i := fun i hi c => by rw [V, cutW_lo (by omega), ndW_lo _ _ _ _ _ hi, m i (by omega), if_neg c]
  have V2 : zV y (y.2 6 id) 2 = v := by rw [V, cutW_lo (by omega), ndW_lo _ _ _ _ _ (by decide), m 2 (by decide), if_pos rfl]
  have x61 : x.2 17 61 = id := by rw [m 61 (by decide), if_neg (by decide), k61]
  have V61 : zV y (y.2 6 id) 61 = id := by rw [V]; exact x61
  have V0 : zV y (y.2 6 id) 0 = T.kd id := by rw [Vlo 0 (by decide) (by decide), k0]
  have hsf : T.kd id = 1 → SAMF (zV z) (zV y) (z.2 6) (y.2 6) id := fun q => by
    refine ⟨fun i a b => Vlo i (by omega) (by omega), fun j hj w' => ?_⟩
    have hr := (hi.fil q).2.2.rng j hj w'
    exact ⟨P' _ (by omega), (hky.1 _ (by rw [(h.wk.p1 hr.2.2.1).1]; decide)).2⟩
  have hB : ∀ k, BPL (zV z) (z.2 6) id k = BPL (zV y) (y.2 6) id k := fun k => by
    have c1 : ¬ (z.2 6 id = 0 ∨ 250 < id) := by omega
    have c2 : ¬ (y.2 6 id = 0 ∨ 250 < id) := by omega
    unfold BPL
    rw [if_neg c1, if_neg c2, V0, k0]
    rcases g3 with q | q
    · have h12 : ¬ (1 = 2) := by decide
      rw [q, if_neg h12, if_neg h12]
      by_cases c : k < 412
      · rw [if_pos c, if_pos c, (hsf q).bp c]
      · rw [if_neg c, if_neg c]
    · rw [q, if_pos rfl, if_pos rfl]
      by_cases c : k < 48
      · rw [if_pos c, if_pos c, Vlo _ (by omega) (by omega)]
      · rw [if_neg c, if_neg c]
  have hwr : ∀ k, BPL (zV z) (z.2 6) id k ≠ 0 → zV y (BPL (zV z) (z.2 6) id k) = zV z (BPL (zV z) (z.2 6) id k) := fun k q => (hky.1 _ (by rw [(h.wk.tr.rb h.wk.lg q).2.2.2.2]; decide)).2
  refine Ev.ret ⟨y, _, rfl, h.put (T' := T') (BP := BPL (zV z) (z.2 6)) hkx w hx6 hpn hy (by decide) g1 g2 (by rw [x1]; exact hse) x61 hT (by rw [t1]; exact g3) ⟨⟨fun q => ?_, fun q => ?_⟩, fun _ => ⟨?_, ?_, V61⟩, fun q => ⟨?_, ?_, ?_⟩, fun q => ⟨?_, ?_, ?_⟩, fun q n => ?_⟩ hB (fun i _ => rfl) (fun j q hj _ _ => ?_), ?_, ?_, ?_, ?_⟩
  · omega
  · rw [t1] at q; exact absurd q hk
  · rw [V0, t1]
  · rw [Vlo 58 (by decide) (by decide), k58]
  · rw [t1] at q
    rw [t5]
    have f1 := (hi.fil q).1
    have f2 := f1.keep (W' := zV y) (bp' := bpF (zV y) (y.2 6) id) (fun k hk => (hsf q).bp hk) (fun k hk q' => by
      have := hwr k
      rw [BPL_f hp0 g2 (by rw [k0, q]; decide) hk] at this
      exact this q')
    exact f2.cong (fun i hi' => Vlo i (by omega) (by omega))
  · rw [t1] at q
    rw [V2, tl q]
  · rw [t1] at q
    exact (hsf q).nok (hi.fil q).2.2
  · rw [t1] at q
    rw [t4]
    have f1 := (hi.dir q).1
    have f2 := f1.keep (W' := zV y) (fun s hs q' => by
      have := hwr s
      rw [BPL_d hp0 g2 (by rw [k0, q]) hs] at this
      exact this (f1.slot s hs q').1)
    refine ⟨?_, ?_, ?_, ?_⟩
    · intro s hs q'
      rw [Vlo _ (by omega) (by omega)] at q' ⊢
      exact f2.slot s hs q'
    · intro n hn
      obtain ⟨s, hs, q', e'⟩ := f2.all n hn
      exact ⟨s, hs, by rw [Vlo _ (by omega) (by omega)]; exact q', by rw [Vlo _ (by omega) (by omega)]; exact e'⟩
    · intro s s' hs hs' q1 q2 e'
      rw [Vlo _ (by omega) (by omega)] at q1 e'
      rw [Vlo (6 + s') (by omega) (by omega)] at q2 e'
      exact f2.dis s s' hs hs' q1 q2 e'
    · rw [Vlo 1 (by decide) (by decide), f2.siz]
      exact sm_congr (fun s hs => by rw [Vlo _ (by omega) (by omega)])
  · rw [t1] at q
    rw [V2, tp q]
  · rw [t1] at q
    rw [Vlo 3 (by decide) (by decide), (hi.dir q).2.2]
  · rw [t1] at q
    rw [t4]; exact hi.noe q n
  · exact ⟨by rw [t1]; exact q, j, hj, (hsf q).nb hj⟩
  · exact FR.trans ⟨fun k _ _ _ _ _ _ _ _ => by rw [x1], fun c hc => xa c (by omega)⟩ (hpn.fr (by decide)).1
  · rw [(hpn.fr (by decide)).2, xa 8 (by decide)]
  · have := hpn.2.2.2.2.2.2.2.1
    omega
  · rw [hpn.f7 (by decide), xa 7 (by decide)]
theorem stir_8 {z : NSt} {n : Nat} (h1 : 1 ≤ n) (h2 : n ≤ 250) : (stirZ n z).2 8 = va_up (z.2 8) n 1 ∧ (stirZ n z).1 = z.1 ∧ ∀ c, c ≠ 8 → (stirZ n z).2 c = z.2 c := by
  unfold stirZ
  rw [if_pos ⟨h1, h2⟩]
  exact ⟨by rw [zA2, if_pos rfl], rfl, fun c hc => by rw [zA2, if_neg hc]⟩
theorem NW.stir {z : NSt} {T R : TRE} {tk : TKS} {PP : Nat → Nat} {ch : List Nat} (h : NW z T R tk PP ch) {n : Nat} (h1 : 1 ≤ n) (h2 : n ≤ 250) : NW (stirZ n z) T R tk PP ch :=
  h.frame ((stir_8 h1 h2).2.2 4 (by decide)) ((stir_8 h1 h2).2.2 6 (by decide)) (h.wk.stir n)
theorem FR.stir {z y : NSt} (h : FR z y) {n : Nat} (h1 : 1 ≤ n) (h2 : n ≤ 250) : FR z (stirZ n y) :=
  h.trans ⟨fun k _ _ _ _ _ _ _ _ => by rw [(stir_8 h1 h2).2.1], fun c hc => (stir_8 h1 h2).2.2 c (by omega)⟩
/-- a file's links, more or fewer -/
theorem changeLinks_s {FU : Nat} (hF : 140000 < FU) {z : NSt} {T R : TRE} {tk : TKS} {PP : Nat → Nat} {ch : List Nat} (h : NW z T R tk PP ch) (hU : 33 ≤ Uz z) (hse : z.1 11 < 2 ^ 32) {f v : Nat} {by' : Int32} (hk : T.kd f = 1) (hv : nI (T.lk f) + by' = nI v) (hv2 : v < 2 ^ 32) :
    Ev (Tre_changeLinks FU (nI f) by' (up z)) fun r => ∃ y ch', r = (nI v, up y) ∧ NW y (T.wLk (va_up T.lk f v)) R tk PP ch' ∧ FR z y ∧ y.2 8 = va_up (z.2 8) f 1 ∧ Uz y + 1 = Uz z ∧ y.2 7 = z.2 7 := by
  obtain ⟨g1, g2, g3⟩ := h.tok.rng f (by omega)
  unfold Tre_changeLinks
  have e : Tre_wordOf FU (nI f) (2 : Int32) (up z) = some (nI (T.lk f)) := by
    rw [show (2 : Int32) = nI 2 from rfl, Tre_wordOf_z FU h.wk.pb (by omega) (by decide), h.wI (by omega) (by decide), ((h.tok.ids f g1 g2).fil hk).2.1]
  rw [e, Option.bind_some, hv]
  refine (putWord_s (T' := (T.wLk (va_up T.lk f v))) hF h hU hse (by omega) hv2 (fun i hi => ⟨rfl, va_up_ne _ _ hi, rfl, rfl, rfl⟩) rfl rfl rfl (fun _ => va_up_self _ _ _) (fun q => by omega)).bd ?_
  rintro _ ⟨y, ch', rfl, n1, n2, n3, n4, n5⟩
  rw [Tab_stir_z FU y (by omega), Option.bind_some]
  refine Ev.ret ⟨stirZ f y, ch', rfl, n1.stir g1 g2, n2.stir g1 g2, ?_, ?_, by rw [(stir_8 g1 g2).2.2 7 (by decide), n5]⟩
  · rw [(stir_8 g1 g2).1, n3]
  · have : Uz (stirZ f y) = Uz y := Uz_frame (fun k _ _ => by rw [(stir_8 g1 g2).2.1])
    omega
theorem moved_s {FU : Nat} (hF : 140000 < FU) {z : NSt} {T R : TRE} {tk : TKS} {PP : Nat → Nat} {ch : List Nat} (h : NW z T R tk PP ch) (hU : 33 ≤ Uz z) (hse : z.1 11 < 2 ^ 32) {id d : Nat} (hk : T.kd id ≠ 0) (hd : d ≤ 250) :
    Ev (Tre_moved FU (nI id) (nI d) (up z)) fun r => ∃ y ch', r = up y ∧ NW y (if T.kd id = 1 then T else (T.wPar (va_up T.par id d))) R tk PP ch' ∧ FR z y ∧ y.2 8 = (if T.kd id = 1 then va_up (z.2 8) id 1 else z.2 8) ∧ Uz z ≤ Uz y + 1 ∧ y.2 7 = z.2 7 := by
  obtain ⟨g1, g2, g3⟩ := h.tok.rng id hk
  have hi := h.tok.ids id g1 g2
  unfold Tre_moved
  rw [Tre_kindOf_z FU h.wk.pb (by omega), Option.bind_some, h.kind]
  by_cases c : T.kd id = 1
  · rw [if_pos c, if_pos c, c, if_pos i11, Tab_stir_z FU z (by omega), Option.bind_some]
    refine Ev.ret ⟨stirZ id z, ch, rfl, h.stir g1 g2, (FR.rf z).stir g1 g2, (stir_8 g1 g2).1, ?_, (stir_8 g1 g2).2.2 7 (by decide)⟩
    have : Uz (stirZ id z) = Uz z := Uz_frame (fun k _ _ => by rw [(stir_8 g1 g2).2.1])
    omega
  · have c2 : T.kd id = 2 := by omega
    obtain ⟨-, hpar, -⟩ := hi.dir c2
    have hp32 : T.par id < 2 ^ 32 := by
      rw [← hpar, zV_W (by decide)]
      exact h.wk.wd 4 (by decide) (by decide) _
    rw [if_neg c, if_neg c, c2, if_neg (by decide), show (2 : Int32) = nI 2 from rfl, Tre_wordOf_z FU h.wk.pb (by omega) (by decide), Option.bind_some, h.wI hk (by decide), hpar]
    by_cases e : T.par id = d
    · rw [if_pos (by rw [e])]
      have et : (T.wPar (va_up T.par id d)) = T := by
        rw [up_same e]
        rfl
      refine Ev.ret ⟨z, ch, rfl, ?_, FR.rf z, rfl, by omega, rfl⟩
      rw [et]; exact h
    · rw [if_neg (fun q => e ((nI_inj hp32 (by omega)).mp q))]
      refine (putWord_s (T' := (T.wPar (va_up T.par id d))) hF h hU hse hk (by omega) (fun i hi => ⟨rfl, rfl, va_up_ne _ _ hi, rfl, rfl⟩) rfl rfl rfl (fun q => by omega) (fun _ => va_up_self _ _ _)).bd ?_
      rintro _ ⟨y, ch', rfl, n1, n2, n3, n4, n5⟩
      exact Ev.ret ⟨y, ch', rfl, n1, n2, n3, by omega, n5⟩
