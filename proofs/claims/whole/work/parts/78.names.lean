/-! names come and go -/
theorem Log_drop_g (FU : Nat) {z : NSt} (h : LG z) {p : Nat} (hp : p < 2 ^ 31) : Log_drop FU (nI p) (up z) = some (up (drpZ p z)) :=
  Log_drop_z FU z hp (h.use2 p) (fun _ _ q => h.cnt_pos q)
theorem Dev_load_g (FU : Nat) (z : NSt) (a : Nat) {b : Nat} (hb : b < 2117) (ha : 64 ≤ lenF a) : Dev_load FU a (nI b) (up z) = some (up (ldZ z a b)) := Dev_load_e FU z a hb ha
theorem plZ_in {z : NSt} {n : Nat} (h1 : 1 ≤ n) (h2 : n < 2048) : plZ z n = z.2 6 n := if_pos ⟨h1, h2⟩
theorem slotWord_z (FU : Nat) {z : NSt} (hP : PB z) {d s : Nat} (hd : d < 2 ^ 31) (hs : s < 48) : Tre_slotWord FU (nI d) (nI s) (up z) = some (nI (wdI z d (6 + s))) := by
  unfold Tre_slotWord
  simp (disch := omega) only [lit_nI, nI_ltI, nI_leI, nI_eq, nI_add, pk_sub, pk_div, nI_64, rdA_z, wrA_z, cpy_z, up1, up_I, nz_n0, nz_n1, zI1, zI2, zR1, zR2, zA1, zA2, Option.bind_some, nx_eq, if_true, if_false, if_pos, if_neg]
  rw [Tre_wordOf_z FU hP hd (by omega)]
  rfl
theorem ne0_I {w : Nat} (h : w < 2 ^ 32) (h0 : w ≠ 0) : ¬ nI w = 0 := fun q => h0 ((nI_inj h (by decide)).mp q)
theorem dropName_s {FU : Nat} (hF : 140000 < FU) {z : NSt} {T R : TRE} {tk : TKS} {PP : Nat → Nat} {ch : List Nat} (h : NW z T R tk PP ch) (hU : 33 ≤ Uz z) (hse : z.1 11 < 2 ^ 32) {d s : Nat} (hd : T.kd d = 2) (hs : s < 48) (hq : zV z (z.2 6 d) (6 + s) ≠ 0) :
    Ev (Tre_dropName FU (nI d) (nI s) (up z)) fun r => ∃ y ch', r = up y ∧ NW y (T.wEnt (va_up T.ent d (va_up (T.ent d) (nmE (zV z) (zV z (z.2 6 d) (6 + s) % 4096)) 0))) R tk PP ch' ∧ FR z y ∧ y.2 8 = z.2 8 ∧ Uz y + 1 = Uz z ∧ y.2 7 = z.2 7 ∧ KW z y ∧ (∀ i, i ≠ d → y.2 6 i = z.2 6 i) ∧ (∀ t, t < 48 → t ≠ s → zV y (y.2 6 d) (6 + t) = zV z (z.2 6 d) (6 + t)) := by
  obtain ⟨g1, g2, -⟩ := h.tok.rng d (by omega)
  have hi := h.tok.ids d g1 g2
  have hp0 : z.2 6 d ≠ 0 := fun q => by
    have := hi.pl.mp q
    omega
  obtain ⟨hD, hpar, h3⟩ := hi.dir hd
  obtain ⟨k0, k58, k61⟩ := hi.kd (by omega)
  have hpb := h.wk.pb d
  have hsl := hD.slot s hs hq
  obtain ⟨w, ew⟩ : ∃ w, w = zV z (z.2 6 d) (6 + s) := ⟨_, rfl⟩
  rw [← ew] at hq hsl ⊢
  have ww : zW z (z.2 6 d) (6 + s) = w := by rw [ew, zV_W (by omega)]
  have w32 : w < 2 ^ 32 := by rw [← ww]; exact h.wk.wd 4 (by decide) (by decide) _
  have hb : BPL (zV z) (z.2 6) d s = w % 4096 := by rw [BPL_d hp0 g2 (by rw [k0, hd]) hs, ← ew]
  have hs1 : 1 ≤ zV z (z.2 6 d) 1 := by
    rw [hD.siz]
    have := sm_one (f := fun t => if zV z (z.2 6 d) (6 + t) = 0 then 0 else 1) (i := s) (n := 48) hs
    simp only [← ew] at this
    rw [if_neg hq] at this
    exact this
  unfold Tre_dropName
  rw [slotWord_z FU h.wk.pb (by omega) hs, h.wI (by omega) (by omega), ← ew, Option.bind_some, if_neg (ne0_I w32 hq), Tab_placeOf_z FU z (by omega), Option.bind_some, plZ_in g1 (by omega), Dev_load_g FU z 17 hpb (by decide), Option.bind_some]
  obtain ⟨z1, e1⟩ : ∃ q, q = ldZ z 17 (z.2 6 d) := ⟨_, rfl⟩
  have w1 : WK z1 (BPL (zV z) (z.2 6)) R tk PP ch := by rw [e1]; exact h.wk.load _ (by decide)
  have m1 : ∀ i, i < 64 → z1.2 17 i = zV z (z.2 6 d) i := fun i hi => by rw [e1, ld_a hi, zV_W hi]
  have a1 : ∀ c, c ≠ 17 → z1.2 c = z.2 c := fun c hc => by rw [e1, ld_b hc]
  have s1 : z1.1 = z.1 := by rw [e1]; rfl
  rw [← e1, show (6 : Int32) + nI s = nI (6 + s) from nI_add 6 s, rdA_z z1 17 (by omega) (by decide), Option.bind_some, m1 _ (by omega), ← ew, and4095 w32, Log_drop_g FU w1.lg (by omega), Option.bind_some]
  have w2 := w1.drop (n := d) (i := s) (by rw [hb]; exact hsl.1)
  rw [hb] at w2
  obtain ⟨z2, e2⟩ : ∃ q, q = drpZ (w % 4096) z1 := ⟨_, rfl⟩
  rw [← e2] at w2 ⊢
  have a2 : ∀ c, c ≠ 9 → c ≠ 10 → c ≠ 11 → z2.2 c = z1.2 c := fun c x y v => by rw [e2, drp_2 _ _ x y v]
  have s2 : z2.1 = z.1 := by rw [e2, drp_1, s1]
  have u2 : Uz z2 = Uz z := by
    rw [e2, (drop_LG w1.lg _).2]
    exact Uz_frame (fun k _ _ => by rw [s1])
  rw [show (0 : Int32) = nI 0 from rfl, wrA_z (v := 0) z2 17 (by omega) (by decide), Option.bind_some, show (1 : Int32) = nI 1 from rfl, rdA_z _ 17 (by decide) (by decide), Option.bind_some]
  have v1 : (zA z2 17 (6 + s) 0).2 17 1 = zV z (z.2 6 d) 1 := by
    rw [zA2, if_pos rfl, va_up_ne _ _ (by omega), a2 17 (by decide) (by decide) (by decide), m1 1 (by decide)]
  rw [v1, pk_sub hs1, wrA_z _ 17 (by decide) (by decide), Option.bind_some]
  obtain ⟨z4, e4⟩ : ∃ q, q = zA (zA z2 17 (6 + s) 0) 17 1 (zV z (z.2 6 d) 1 - 1) := ⟨_, rfl⟩
  have v32 : zV z (z.2 6 d) 1 < 2 ^ 32 := by rw [zV_W (by decide)]; exact h.wk.wd 4 (by decide) (by decide) _
  have w4 : WK z4 (up2' (BPL (zV z) (z.2 6)) d s 0) R tk PP ch := by rw [e4]; exact (w2.setA (by decide) (by decide)).setA (by decide) (by omega)
  have m4 : ∀ i, i < 64 → z4.2 17 i = if i = 1 then zV z (z.2 6 d) 1 - 1 else if i = 6 + s then 0 else zV z (z.2 6 d) i := fun i hi => by
    rw [e4, zA2, if_pos rfl]
    unfold va_up
    by_cases c : i = 1
    · rw [if_pos c, if_pos c]
    · rw [if_neg c, if_neg c, zA2, if_pos rfl]
      unfold va_up
      by_cases c' : i = 6 + s
      · rw [if_pos c', if_pos c']
      · rw [if_neg c', if_neg c', a2 17 (by decide) (by decide) (by decide), m1 i hi]
  have a4 : ∀ c, c ≠ 9 → c ≠ 10 → c ≠ 11 → c ≠ 17 → z4.2 c = z.2 c := fun c x y v g => by
    rw [e4, zA2, if_neg g, zA2, if_neg g, a2 c x y v, a1 c g]
  have s4 : z4.1 = z.1 := by rw [e4, zA1, zA1, s2]
  have u4 : Uz z4 = Uz z := Uz_frame (fun k _ _ => by rw [s4])
  rw [← e4]
  have hp4 : z4.2 6 = z.2 6 := a4 6 (by decide) (by decide) (by decide) (by decide)
  refine (putNode_s (k := 0) (by omega) rfl (by decide) w4.lg (by omega) g1 (by omega) (Or.inr (by rw [hp4]; have := (w4.p1 (n := d) (by rw [hp4]; exact hp0)).2.2.2; rw [hp4] at this; omega))).bd ?_
  rintro _ ⟨y, rfl, hy, hpn⟩
  have hk4 : KW z z4 := KW.of4 (a4 4 (by decide) (by decide) (by decide) (by decide)) (a4 5 (by decide) (by decide) (by decide) (by decide))
  have hky : KW z y := hk4.trans hpn.kw
  have hD2 : DOK (zV y) (z4.2 17) (va_up (T.ent d) (nmE (zV z) (w % 4096)) 0) := by
    have hdel := hD.del (J := z4.2 17) hs (by rw [← ew]; exact hq) (fun t ht => by
      rw [m4 _ (by omega), if_neg (by omega)]
      by_cases c : t = s
      · rw [if_pos c, if_pos (by omega)]
      · rw [if_neg c, if_neg (by omega)]) (by rw [m4 1 (by decide), if_pos rfl]; omega)
    rw [← ew] at hdel
    refine hdel.keep (fun t ht q => ?_)
    have ct : z4.2 17 (6 + t) = zV z (z.2 6 d) (6 + t) := by
      rw [m4 _ (by omega), if_neg (by omega)] at q ⊢
      by_cases c : 6 + t = 6 + s
      · rw [if_pos c] at q; exact absurd rfl q
      · rw [if_neg c]
    rw [ct] at q ⊢
    refine (hky.1 _ ?_).2
    have hb2 : BPL (zV z) (z.2 6) d t = zV z (z.2 6 d) (6 + t) % 4096 := BPL_d hp0 g2 (by rw [k0, hd]) ht
    have hr := h.wk.tr.rb h.wk.lg (n := d) (i := t) (by rw [hb2]; exact (hD.slot t ht q).1)
    rw [hb2] at hr
    rw [hr.2.2.2.2]; decide
  refine Ev.ret ⟨y, _, rfl, h.dirput hk4 w4 hp4 hpn hy hd (by rw [s4]; exact hse) ?_ ?_ ?_ ?_ ?_ hD2 (fun k => ?_) (fun i hi' => ?_), ?_, ?_, ?_, ?_, hky, fun i hi' => by rw [hpn.2.2.1, va_up_ne _ _ hi', hp4], fun t ht hts => ?_⟩
  · rw [m4 0 (by decide), if_neg (by decide), if_neg (by omega), k0, hd]
  · rw [m4 2 (by decide), if_neg (by decide), if_neg (by omega), hpar]
  · rw [m4 3 (by decide), if_neg (by decide), if_neg (by omega), h3]
  · rw [m4 58 (by decide), if_neg (by decide), if_neg (by omega), k58]
  · rw [m4 61 (by decide), if_neg (by decide), if_neg (by omega), k61]
  · by_cases c : k = s
    · rw [c, u2_s, if_pos hs, m4 _ (by omega), if_neg (by omega), if_pos rfl]
    · rw [u2_n _ _ (fun q => c q.2)]
      by_cases c' : k < 48
      · rw [if_pos c', m4 _ (by omega), if_neg (by omega), if_neg (by omega), BPL_d hp0 g2 (by rw [k0, hd]) c']
      · rw [if_neg c']
        unfold BPL
        rw [if_neg (by omega), if_pos (by rw [k0, hd]), if_neg c']
  · funext k
    rw [u2_n _ _ (fun q => hi' q.1)]
  · have hf := (hpn.fr (by decide)).1
    exact FR.trans ⟨fun k _ _ _ _ _ _ _ _ => by rw [s4], fun a ha => a4 a (by omega) (by omega) (by omega) (by omega)⟩ hf
  · rw [(hpn.fr (by decide)).2, a4 8 (by decide) (by decide) (by decide) (by decide)]
  · have := hpn.2.2.2.2.2.2.2.1
    omega
  · rw [hpn.f7 (by decide), a4 7 (by decide) (by decide) (by decide) (by decide)]
  · have P : y.2 6 d = z4.1 8 := by rw [hpn.2.2.1, va_up_self]
    rw [P, hpn.V, if_pos rfl, cutW_lo (by omega), ndW_lo _ _ _ _ _ (by omega), m4 _ (by omega), if_neg (by omega), if_neg (by omega)]
theorem addName_b (FU a d hh : Nat) (z : NSt) (hw : ∀ i, z.2 17 i < 2 ^ 32) : ∀ (m i n h0 : Nat), i + m = 48 → m < n → (∃ j, i ≤ j ∧ j < 48 ∧ z.2 17 (6 + (h0 + j) % 48) = 0) → ∃ s, s < 48 ∧ z.2 17 (6 + s) = 0 ∧ Tre_addName_b71 FU a n (nI d) (nI hh) (nI ((h0 + i) % 48)) (nI i) (up z) = Tre_addName_b114 FU a (nI d) (nI hh) (nI s) (up z) := by
  intro m
  induction m with
  | zero =>
    intro i n h0 h1 h2 h3
    obtain ⟨j, j1, j2, -⟩ := h3
    omega
  | succ m ih =>
    intro i n h0 h1 h2 h3
    obtain ⟨n, rfl⟩ : ∃ q9, n = q9 + 1 := ⟨n - 1, by omega⟩
    have hlt : (h0 + i) % 48 < 48 := Nat.mod_lt _ (by decide)
    unfold Tre_addName_b71
    rw [show (48 : Int32) = nI 48 from rfl, if_neg (nI_ge (by omega) (by decide)), show (6 : Int32) + nI ((h0 + i) % 48) = nI (6 + (h0 + i) % 48) from nI_add 6 _, rdA_z z 17 (by omega) (by decide), Option.bind_some]
    by_cases c : z.2 17 (6 + (h0 + i) % 48) = 0
    · refine ⟨(h0 + i) % 48, hlt, c, ?_⟩
      rw [c, if_pos i00]
    · rw [if_neg (ne0_I (hw _) c)]
      have h3' : ∃ j, i + 1 ≤ j ∧ j < 48 ∧ z.2 17 (6 + (h0 + j) % 48) = 0 := by
        obtain ⟨j, j1, j2, j3⟩ := h3
        refine ⟨j, ?_, j2, j3⟩
        have : j ≠ i := fun e => c (by rw [← e]; exact j3)
        omega
      obtain ⟨s, s1, s2, s3⟩ := ih (i + 1) n h0 (by omega) (by omega) h3'
      refine ⟨s, s1, s2, ?_⟩
      rw [← s3]
      unfold Tre_addName_b106
      by_cases e : (h0 + i) % 48 = 47
      · rw [e, if_pos i47, nI_1, show (0 : Int32) = nI 0 from rfl, show (h0 + (i + 1)) % 48 = 0 by omega]
      · rw [if_neg (ne47 (by omega) e), nI_1, nI_1, show (h0 + (i + 1)) % 48 = (h0 + i) % 48 + 1 by omega]
theorem zero_slot {I : Nat → Nat} {h0 : Nat} (hs : sm (fun s => if I (6 + s) = 0 then 0 else 1) 48 < 48) : ∃ j, 0 ≤ j ∧ j < 48 ∧ I (6 + (h0 + j) % 48) = 0 := by
  have hx : ∃ s, s < 48 ∧ I (6 + s) = 0 := by
    refine Classical.byContradiction (fun q => ?_)
    have e : sm (fun s => if I (6 + s) = 0 then 0 else 1) 48 = sm (fun _ => 1) 48 := sm_congr (fun s hs => if_neg (fun w => q ⟨s, hs, w⟩))
    rw [e, sm_const] at hs
    omega
  obtain ⟨s, h1, h2⟩ := hx
  refine ⟨(s + 48 - h0 % 48) % 48, by omega, by omega, ?_⟩
  rw [show (h0 + (s + 48 - h0 % 48) % 48) % 48 = s by omega]
  exact h2
/-- the name in an array of memory -/
def nmA (z : NSt) (a : Nat) : Nat := hn (2 ^ 32) (z.2 a) 5
theorem addName_s {FU : Nat} (hF : 140000 < FU) {z : NSt} {T R : TRE} {tk : TKS} {PP : Nat → Nat} {ch : List Nat} (h : NW z T R tk PP ch) (hU : 34 ≤ Uz z) (hse : z.1 11 < 2 ^ 32) {d a id : Nat} (ha : a = 2 ∨ a = 3) (hd : T.kd d = 2) (hi1 : 1 ≤ id) (hi2 : id ≤ 250) (hnl : NL (nmA z a) (z.2 a 5)) (hen : T.ent d (nmA z a) = 0) (hsz : zV z (z.2 6 d) 1 < 48) :
    Ev (Tre_addName FU a (nI d) (nI id) (up z)) fun r => ∃ y ch', r = up y ∧ NW y (T.wEnt (va_up T.ent d (va_up (T.ent d) (nmA z a) id))) R tk PP ch' ∧ FR z y ∧ y.2 8 = z.2 8 ∧ Uz y + 2 = Uz z ∧ y.2 7 = z.2 7 := by
  have hla : lenF a = 6 := by rcases ha with rfl | rfl <;> rfl
  obtain ⟨g1, g2, -⟩ := h.tok.rng d (by omega)
  have hi := h.tok.ids d g1 g2
  have hp0 : z.2 6 d ≠ 0 := fun q => by
    have := hi.pl.mp q
    omega
  obtain ⟨hD, hpar, h3⟩ := hi.dir hd
  obtain ⟨k0, k58, k61⟩ := hi.kd (by omega)
  have hpb := h.wk.pb d
  have hwa : ∀ i, z.2 a i < 2 ^ 32 := h.wk.wd a (by omega) (by omega)
  unfold Tre_addName
  rw [show (0 : Int32) = nI 0 from rfl, fill0_z 18 0 z (by show 64 < FU; omega), Option.bind_some, wrA_z _ 18 (by decide) (by decide), Option.bind_some, show (5 : Int32) = nI 5 from rfl, rdA_z _ a (by omega) (by omega), Option.bind_some]
  obtain ⟨z1, e1⟩ : ∃ q, q = zA (zR z 18 (flN (z.2 18) 0 (lenF 18) 0)) 18 0 id := ⟨_, rfl⟩
  have a1 : ∀ c, c ≠ 18 → z1.2 c = z.2 c := fun c hc => by rw [e1, zA2, if_neg hc, zR2, if_neg hc]
  have s1 : z1.1 = z.1 := by rw [e1]; rfl
  rw [← e1, a1 a (by omega), show (1 : Int32) = nI 1 from rfl, wrA_z z1 18 (by decide) (by decide), Option.bind_some, show (2 : Int32) = nI 2 from rfl, cpy_z _ a 18 (by omega) (by decide) (by omega) (by decide), Option.bind_some]
  obtain ⟨z2, e2⟩ : ∃ q, q = zR (zA z1 18 1 (z.2 a 5)) 18 (va_cpy ((zA z1 18 1 (z.2 a 5)).2 a) ((zA z1 18 1 (z.2 a 5)).2 18) 0 2 5) := ⟨_, rfl⟩
  have a2 : ∀ c, c ≠ 18 → z2.2 c = z.2 c := fun c hc => by rw [e2, zR2, if_neg hc, zA2, if_neg hc, a1 c hc]
  have s2 : z2.1 = z.1 := by rw [e2, zR1, zA1, s1]
  have m2 : ∀ i, i < 64 → z2.2 18 i = if 2 ≤ i ∧ i < 7 then z.2 a (i - 2) else if i = 1 then z.2 a 5 else if i = 0 then id else 0 := fun i hi => by
    rw [e2, zR2, if_pos rfl]
    unfold va_cpy
    by_cases c : 2 ≤ i ∧ i < 2 + 5
    · rw [if_pos c, if_pos (by omega), zA2, if_neg (by omega), a1 a (by omega), Nat.zero_add]
    · rw [if_neg c, if_neg (by omega), zA2, if_pos rfl]
      unfold va_up
      by_cases c1 : i = 1
      · rw [if_pos c1, if_pos c1]
      · rw [if_neg c1, if_neg c1, e1, zA2, if_pos rfl]
        unfold va_up
        by_cases c0 : i = 0
        · rw [if_pos c0, if_pos c0]
        · rw [if_neg c0, if_neg c0, zR2, if_pos rfl]
          unfold flN
          rw [if_pos ⟨by omega, by show i < 64; exact hi⟩]
  have w2 : WK z2 (BPL (zV z) (z.2 6)) R tk PP ch := by
    refine h.wk.mem (fun k _ _ => by rw [s2]) (fun c _ _ _ _ => a2 c (by omega)) (fun n _ => Or.inl (by rw [a2 7 (by decide)])) (fun c c1 c2 i => ?_)
    by_cases q : c = 18
    · rw [q, e2, zR2, if_pos rfl]
      unfold va_cpy
      split
      · rw [zA2, if_neg (by omega), a1 a (by omega)]; exact hwa _
      · rw [zA2, if_pos rfl]
        unfold va_up
        split
        · exact hwa _
        · rw [e1, zA2, if_pos rfl]
          unfold va_up
          split
          · omega
          · rw [zR2, if_pos rfl]
            unfold flN
            split
            · decide
            · exact h.wk.wd 18 (by decide) (by decide) _
    · rw [a2 c q]; exact h.wk.wd c c1 c2 i
  rw [← e2, hashOf_z (by omega) z2 a (by omega), Option.bind_some, Tab_placeOf_z FU z2 (by omega), Option.bind_some, plZ_in g1 (by omega), a2 6 (by decide), Dev_load_g FU z2 17 hpb (by decide), Option.bind_some]
  obtain ⟨H, eH⟩ : ∃ H, H = hashN (fun j => z2.2 a (0 + j)) := ⟨_, rfl⟩
  have hH : H < 2 ^ 20 := by rw [eH]; exact hashN_lt _
  have eH2 : H = hashN (z.2 a) := by
    rw [eH]
    exact hashN_congr (fun i _ => by rw [a2 a (by omega), Nat.zero_add])
  obtain ⟨z3, e3⟩ : ∃ q, q = ldZ z2 17 (z.2 6 d) := ⟨_, rfl⟩
  have w3 : WK z3 (BPL (zV z) (z.2 6)) R tk PP ch := by rw [e3]; exact w2.load _ (by decide)
  have m3 : ∀ i, i < 64 → z3.2 17 i = zV z (z.2 6 d) i := fun i hi => by
    rw [e3, ld_a hi, zV_W hi]
    unfold zW
    rw [a2 4 (by decide)]
  have a3 : ∀ c, c ≠ 17 → z3.2 c = z2.2 c := fun c hc => by rw [e3, ld_b hc]
  have s3 : z3.1 = z.1 := by rw [e3]; exact s2
  rw [← e3, ← eH, show (48 : Int32) = nI 48 from rfl, pk_rem (by omega) (by decide) (by decide)]
  obtain ⟨s, hs, hs0, hb71⟩ := addName_b FU a d H z3 (w3.wd 17 (by decide) (by decide)) 48 0 FU H (by omega) (by omega) (zero_slot (by
    have e : sm (fun s => if z3.2 17 (6 + s) = 0 then 0 else 1) 48 = zV z (z.2 6 d) 1 := by
      rw [hD.siz]
      exact sm_congr (fun s hs => by rw [m3 _ (by omega)])
    omega))
  rw [Nat.add_zero] at hb71
  rw [hb71]
  have hs0' : zV z (z.2 6 d) (6 + s) = 0 := by rw [← m3 _ (by omega)]; exact hs0
  unfold Tre_addName_b114
  have u3 : Uz z3 = Uz z := Uz_frame (fun k _ _ => by rw [s3])
  refine (putData_s (a := 18) (by omega) (by decide) (by decide) w3.lg (by omega)).bd ?_
  rintro _ ⟨z4, rfl, hl4, hpd⟩
  have hbr : BPL (zV z) (z.2 6) d s = 0 := by rw [BPL_d hp0 g2 (by rw [k0, hd]) hs, hs0']
  have w4 := w3.data (n := d) (i := s) ⟨by decide, by decide⟩ hpd hl4 hbr
  obtain ⟨q4, q5, q9, qn, qs, qu, qw0, qu0, q69, q70, q12⟩ := _root_.id hpd
  have e9 := w3.lg.end9
  obtain ⟨D, eD⟩ : ∃ D, D = z3.1 9 := ⟨_, rfl⟩
  rw [← eD] at w4 qw0 qu0 q69 q70 e9 ⊢
  have a4 : ∀ c, 13 ≤ c → z4.2 c = z3.2 c := fun c hc => qn c (by omega) (by omega) (by omega) (by omega) (by omega)
  rw [show (6 : Int32) + nI s = nI (6 + s) from nI_add 6 s, slot_I hH (by omega), wrA_z z4 17 (by omega) (by decide), Option.bind_some, show (1 : Int32) = nI 1 from rfl, rdA_z _ 17 (by decide) (by decide), Option.bind_some]
  have v1 : (zA z4 17 (6 + s) (H * 4096 + D)).2 17 1 = zV z (z.2 6 d) 1 := by
    rw [zA2, if_pos rfl, va_up_ne _ _ (by omega), a4 17 (by decide), m3 1 (by decide)]
  rw [v1, nI_add, wrA_z _ 17 (by decide) (by decide), Option.bind_some]
  obtain ⟨z5, e5⟩ : ∃ q, q = zA (zA z4 17 (6 + s) (H * 4096 + D)) 17 1 (zV z (z.2 6 d) 1 + 1) := ⟨_, rfl⟩
  have w5 : WK z5 (up2' (BPL (zV z) (z.2 6)) d s D) R tk PP ch := by rw [e5]; exact (w4.setA (by decide) (by omega)).setA (by decide) (by omega)
  have m5 : ∀ i, i < 64 → z5.2 17 i = if i = 1 then zV z (z.2 6 d) 1 + 1 else if i = 6 + s then H * 4096 + D else zV z (z.2 6 d) i := fun i hi => by
    rw [e5, zA2, if_pos rfl]
    unfold va_up
    by_cases c : i = 1
    · rw [if_pos c, if_pos c]
    · rw [if_neg c, if_neg c, zA2, if_pos rfl]
      unfold va_up
      by_cases c' : i = 6 + s
      · rw [if_pos c', if_pos c']
      · rw [if_neg c', if_neg c', a4 17 (by decide), m3 i hi]
  have a5 : ∀ c, c ≠ 17 → z5.2 c = z4.2 c := fun c g => by rw [e5, zA2, if_neg g, zA2, if_neg g]
  have s5 : z5.1 = z4.1 := by rw [e5, zA1, zA1]
  have u5 : Uz z5 = Uz z4 := Uz_frame (fun k _ _ => by rw [s5])
  have hp5 : z5.2 6 = z.2 6 := by rw [a5 6 (by decide), qn 6 (by decide) (by decide) (by decide) (by decide) (by decide), a3 6 (by decide), a2 6 (by decide)]
  rw [← e5]
  refine (putNode_s (k := 0) (by omega) rfl (by decide) w5.lg (by omega) g1 (by omega) (Or.inr (by rw [hp5]; have := (w5.p1 (n := d) (by rw [hp5]; exact hp0)).2.2.2; rw [hp5] at this; omega))).bd ?_
  rintro _ ⟨y, rfl, hy, hpn⟩
  have hk3 : KW z z3 := KW.of4 (by rw [a3 4 (by decide), a2 4 (by decide)]) (by rw [a3 5 (by decide), a2 5 (by decide)])
  have hk5 : KW z z5 := (hk3.trans hpd.kw).trans (KW.of4 (a5 4 (by decide)) (a5 5 (by decide)))
  have hky : KW z y := hk5.trans hpn.kw
  have vD : zV y D = cutW (z3.2 18) := by
    have hwr : z5.2 5 D ≠ 0 := by rw [a5 5 (by decide), q5, ← eD, va_up_self]; decide
    rw [(hpn.kw.1 D hwr).2, zV_congr (a5 4 (by decide)), hpd.V, if_pos eD]
  have vDi : ∀ i, i < 64 → zV y D i = if 2 ≤ i ∧ i < 7 then z.2 a (i - 2) else if i = 1 then z.2 a 5 else if i = 0 then id else 0 := fun i hi => by
    rw [vD, cutW_lo hi, a3 18 (by decide), m2 i hi]
  have vn : ∀ i, i < 5 → zV y D (2 + i) = z.2 a i := fun i hi => by
    rw [vDi _ (by omega), if_pos (by omega), show 2 + i - 2 = i by omega]
  have hnm : nmE (zV y) D = nmA z a := hn_congr (fun i hi => vn i hi)
  have hD2 : DOK (zV y) (z5.2 17) (va_up (T.ent d) (nmA z a) id) := by
    refine hD.add (J := z5.2 17) (w := H * 4096 + D) (d := D) (n := nmA z a) (l := z.2 a 5) (id := id) hs hs0' (fun t ht => ?_) ?_ (fun t ht q => ?_) (by omega) (by omega) ?_ hnm ?_ hi1 hi2 ?_ hen
    · rw [m5 _ (by omega), if_neg (by omega)]
      by_cases c : t = s
      · rw [if_pos c, if_pos (by omega)]
      · rw [if_neg c, if_neg (by omega)]
    · rw [m5 1 (by decide), if_pos rfl]
    · refine (hky.1 _ ?_).2
      have hb2 : BPL (zV z) (z.2 6) d t = zV z (z.2 6 d) (6 + t) % 4096 := BPL_d hp0 g2 (by rw [k0, hd]) ht
      have hr := h.wk.tr.rb h.wk.lg (n := d) (i := t) (by rw [hb2]; exact (hD.slot t ht q).1)
      rw [hb2] at hr
      rw [hr.2.2.2.2]; decide
    · rw [show (H * 4096 + D) / 4096 = H by omega, eH2]
      exact hashN_congr (fun i hi => (vn i hi).symm)
    · rw [vDi 0 (by decide)]; rfl
    · rw [vDi 1 (by decide)]; exact hnl
  have hse5 : z5.1 11 < 2 ^ 32 := by rw [s5, qs 11 (by decide) (by decide) (by decide), s3]; exact hse
  refine Ev.ret ⟨y, _, rfl, h.dirput hk5 w5 hp5 hpn hy hd hse5 ?_ ?_ ?_ ?_ ?_ hD2 (fun k => ?_) (fun i hi' => ?_), ?_, ?_, ?_, ?_⟩
  · rw [m5 0 (by decide), if_neg (by decide), if_neg (by omega), k0, hd]
  · rw [m5 2 (by decide), if_neg (by decide), if_neg (by omega), hpar]
  · rw [m5 3 (by decide), if_neg (by decide), if_neg (by omega), h3]
  · rw [m5 58 (by decide), if_neg (by decide), if_neg (by omega), k58]
  · rw [m5 61 (by decide), if_neg (by decide), if_neg (by omega), k61]
  · by_cases c : k = s
    · rw [c, u2_s, if_pos hs, m5 _ (by omega), if_neg (by omega), if_pos rfl]
      omega
    · rw [u2_n _ _ (fun q => c q.2)]
      by_cases c' : k < 48
      · rw [if_pos c', m5 _ (by omega), if_neg (by omega), if_neg (by omega), BPL_d hp0 g2 (by rw [k0, hd]) c']
      · rw [if_neg c']
        unfold BPL
        rw [if_neg (by omega), if_pos (by rw [k0, hd]), if_neg c']
  · funext k
    rw [u2_n _ _ (fun q => hi' q.1)]
  · have f1 : FR z z3 := ⟨fun k _ _ _ _ _ _ _ _ => by rw [s3], fun c hc => by rw [a3 c (by omega), a2 c (by omega)]⟩
    have f2 : FR z4 z5 := ⟨fun k _ _ _ _ _ _ _ _ => by rw [s5], fun c hc => a5 c (by omega)⟩
    exact ((f1.trans hpd.fr.1).trans f2).trans (hpn.fr (by decide)).1
  · rw [(hpn.fr (by decide)).2, a5 8 (by decide), hpd.fr.2, a3 8 (by decide), a2 8 (by decide)]
  · have := hpn.2.2.2.2.2.2.2.1
    omega
  · rw [hpn.f7 (by decide), a5 7 (by decide), hpd.f7, a3 7 (by decide), a2 7 (by decide)]
