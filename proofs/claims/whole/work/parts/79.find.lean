/-! names are found -/
theorem isName_b (FU a p : Nat) {z : NSt} (hp : p < 2117) (ha : lenF a = 6) (hw : ∀ i, z.2 a i < 2 ^ 32) (hw4 : ∀ i, z.2 4 i < 2 ^ 32) : ∀ (m i n : Nat), i + m = 5 → m < n → (∀ j, j < i → zV z p (2 + j) = z.2 a j) → Tre_isName_b2 FU a n (nI p) (nI i) (up z) = some (nI (if nmE (zV z) p = nmA z a then 1 else 0)) := by
  intro m
  induction m with
  | zero =>
    intro i n h1 h2 h3
    obtain ⟨n, rfl⟩ : ∃ q9, n = q9 + 1 := ⟨n - 1, by omega⟩
    have h1 : i = 5 := h1
    subst h1
    have e : nmE (zV z) p = nmA z a := hn_congr h3
    unfold Tre_isName_b2
    rw [if_pos e]
    simp (disch := omega) only [lit_nI, nI_ltI, nI_leI, nI_eq, nI_add, pk_sub, pk_div, nI_64, rdA_z, wrA_z, cpy_z, up1, up_I, nz_n0, nz_n1, zI1, zI2, zR1, zR2, zA1, zA2, Option.bind_some, nx_eq, if_true, if_false, if_pos, if_neg]
  | succ m ih =>
    intro i n h1 h2 h3
    obtain ⟨n, rfl⟩ : ∃ q9, n = q9 + 1 := ⟨n - 1, by omega⟩
    unfold Tre_isName_b2
    rw [show (5 : Int32) = nI 5 from rfl, if_neg (nI_ge (by omega) (by decide)), show (2 : Int32) + nI i = nI (2 + i) from nI_add 2 i, Dev_word_e FU z hp (by omega), Option.bind_some, rdA_z z a (by omega) (by omega), Option.bind_some]
    by_cases c : zW z p (2 + i) = z.2 a i
    · rw [if_pos (by rw [c]), nI_1]
      refine ih (i + 1) n (by omega) (by omega) (fun j hj => ?_)
      by_cases q : j = i
      · rw [q, zV_W (by omega)]; exact c
      · exact h3 j (by omega)
    · have c2 : ¬ nI (zW z p (2 + i)) = nI (z.2 a i) := fun q => c ((nI_inj (hw4 _) (hw _)).mp q)
      have c3 : ¬ nmE (zV z) p = nmA z a := fun q => c (by
        have := hn_inj (f := fun i => zV z p (2 + i)) (g := z.2 a) (n := 5) (fun j _ => ?_) (fun j _ => hw j) q i (by omega)
        · rw [← zV_W (z := z) (b := p) (i := 2 + i) (by omega)]; exact this
        · show cutW _ _ < _
          unfold cutW
          split
          · exact hw4 _
          · decide)
      rw [if_neg c2, if_neg c3]
      rfl
theorem isName_z {FU : Nat} (hF : 10 < FU) {a p : Nat} {z : NSt} (hp : p < 2117) (ha : lenF a = 6) (hw : ∀ i, z.2 a i < 2 ^ 32) (hw4 : ∀ i, z.2 4 i < 2 ^ 32) : Tre_isName FU a (nI p) (up z) = some (nI (if nmE (zV z) p = nmA z a then 1 else 0)) :=
  isName_b FU a p hp ha hw hw4 5 0 FU (by omega) (by omega) (fun j hj => by omega)
theorem if01 {x : Nat} : (if x = 0 then 0 else 1) = if x ≠ 0 then 1 else 0 := by
  by_cases c : x = 0
  · rw [if_pos c, if_neg (fun q => q c)]
  · rw [if_neg c, if_pos c]
theorem sm_cyc (I : Nat → Nat) (h0 : Nat) : sm (fun j => if I (6 + (h0 + j) % 48) = 0 then 0 else 1) 48 = sm (fun s => if I (6 + s) = 0 then 0 else 1) 48 := by
  have e1 : sm (fun j => if I (6 + (h0 + j) % 48) = 0 then 0 else 1) 48 = sm (fun j => if I (6 + (h0 + j) % 48) ≠ 0 then 1 else 0) 48 := sm_congr (fun j _ => if01)
  have e2 : sm (fun s => if I (6 + s) = 0 then 0 else 1) 48 = sm (fun s => if I (6 + s) ≠ 0 then 1 else 0) 48 := sm_congr (fun j _ => if01)
  rw [e1, e2]
  refine cnt_inj (f := fun j => (h0 + j) % 48) (p := fun j => I (6 + (h0 + j) % 48) ≠ 0) (q := fun s => I (6 + s) ≠ 0) (fun i hi hp => ⟨Nat.mod_lt _ (by decide), hp⟩) (fun s hs hq => ⟨(s + 48 - h0 % 48) % 48, by omega, ?_, ?_⟩) (fun i i' hi hi' _ _ e => by omega)
  · show I (6 + (h0 + (s + 48 - h0 % 48) % 48) % 48) ≠ 0
    rw [show (h0 + (s + 48 - h0 % 48) % 48) % 48 = s by omega]; exact hq
  · show (h0 + (s + 48 - h0 % 48) % 48) % 48 = s
    omega
def lftS (I : Nat → Nat) (h0 i m : Nat) : Nat := sm (fun j => if I (6 + (h0 + i + j) % 48) = 0 then 0 else 1) m
theorem lftS_s (I : Nat → Nat) (h0 i m : Nat) : lftS I h0 i (m + 1) = (if I (6 + (h0 + i) % 48) = 0 then 0 else 1) + lftS I h0 (i + 1) m := by
  unfold lftS
  rw [Nat.add_comm m 1, sm_cut]
  show 0 + (if I (6 + (h0 + i + 0) % 48) = 0 then 0 else 1) + _ = _
  rw [Nat.zero_add, Nat.add_zero]
  refine congrArg _ (sm_congr (fun j _ => ?_))
  rw [show h0 + i + (1 + j) = h0 + (i + 1) + j by omega]
theorem slotOf_b {FU : Nat} (hF : 10 < FU) {a d H h0 : Nat} {z : NSt} (hP : PB z) (hd : d < 2 ^ 31) {I : Nat → Nat} (hI : ∀ s, s < 48 → wdI z d (6 + s) = I (6 + s)) (hIw : ∀ i, I i < 2 ^ 32) (hH : H = hashN (z.2 a)) (ha : lenF a = 6) (hw : ∀ i, z.2 a i < 2 ^ 32) (hw4 : ∀ i, z.2 4 i < 2 ^ 32) (hsl : ∀ s, s < 48 → I (6 + s) ≠ 0 → I (6 + s) % 4096 < 2117 ∧ I (6 + s) / 4096 = hashN (fun i => zV z (I (6 + s) % 4096) (2 + i))) :
    ∀ (m i n : Nat), i + m = 48 → m < n → (∀ j, j < i → I (6 + (h0 + j) % 48) ≠ 0 → nmE (zV z) (I (6 + (h0 + j) % 48) % 4096) ≠ nmA z a) → Ev (Tre_slotOf_b23 FU a n (nI d) (nI H) (nI ((h0 + i) % 48)) (nI (lftS I h0 i m)) (nI i) (up z)) fun r => (∃ s, s < 48 ∧ r = nI s ∧ I (6 + s) ≠ 0 ∧ nmE (zV z) (I (6 + s) % 4096) = nmA z a) ∨ (r = -1 ∧ ∀ s, s < 48 → I (6 + s) ≠ 0 → nmE (zV z) (I (6 + s) % 4096) ≠ nmA z a) := by
  intro m
  induction m with
  | zero =>
    intro i n h1 h2 h3
    obtain ⟨n, rfl⟩ : ∃ q9, n = q9 + 1 := ⟨n - 1, by omega⟩
    unfold Tre_slotOf_b23
    rw [show (48 : Int32) = nI 48 from rfl, if_pos (nI_le (by omega) (by omega))]
    refine Ev.ret (Or.inr ⟨rfl, fun s hs q => ?_⟩)
    have := h3 ((s + 48 - h0 % 48) % 48) (by omega)
    rw [show (h0 + (s + 48 - h0 % 48) % 48) % 48 = s by omega] at this
    exact this q
  | succ m ih =>
    intro i n h1 h2 h3
    obtain ⟨n, rfl⟩ : ∃ q9, n = q9 + 1 := ⟨n - 1, by omega⟩
    have hlt : (h0 + i) % 48 < 48 := Nat.mod_lt _ (by decide)
    have hL : lftS I h0 i (m + 1) ≤ m + 1 := by
      have := sm_bnd (f := fun j => if I (6 + (h0 + i + j) % 48) = 0 then 0 else 1) (n := m + 1) (c := 1) (fun j _ => by split <;> omega)
      unfold lftS
      omega
    unfold Tre_slotOf_b23
    rw [show (48 : Int32) = nI 48 from rfl, if_neg (nI_ge (by omega) (by decide))]
    by_cases c0 : lftS I h0 i (m + 1) ≤ 0
    · rw [if_pos (show nI (lftS I h0 i (m + 1)) ≤ (0 : Int32) from nI_le c0 (by decide))]
      refine Ev.ret (Or.inr ⟨rfl, fun s hs q => ?_⟩)
      by_cases cj : (s + 48 - h0 % 48) % 48 < i
      · have := h3 ((s + 48 - h0 % 48) % 48) cj
        rw [show (h0 + (s + 48 - h0 % 48) % 48) % 48 = s by omega] at this
        exact this q
      · have hz := sm_z (f := fun j => if I (6 + (h0 + i + j) % 48) = 0 then 0 else 1) (n := m + 1) (i := (s + 48 - h0 % 48) % 48 - i) (Nat.le_zero.mp c0) (by omega)
        have hz : (if I (6 + (h0 + i + ((s + 48 - h0 % 48) % 48 - i)) % 48) = 0 then 0 else 1) = 0 := hz
        rw [show (h0 + i + ((s + 48 - h0 % 48) % 48 - i)) % 48 = s by omega, if_neg q] at hz
        omega
    · rw [if_neg (show ¬ nI (lftS I h0 i (m + 1)) ≤ (0 : Int32) from nI_nle (by omega) (by omega)), slotWord_z FU hP hd hlt, Option.bind_some, hI _ hlt]
      -- going on
      have go : ∀ L, L = lftS I h0 (i + 1) m → (I (6 + (h0 + i) % 48) ≠ 0 → nmE (zV z) (I (6 + (h0 + i) % 48) % 4096) ≠ nmA z a) → Ev (Tre_slotOf_b78 FU a (Tre_slotOf_b23 FU a n) (nI d) (nI H) (nI ((h0 + i) % 48)) (nI L) (nI i) (up z)) fun r => (∃ s, s < 48 ∧ r = nI s ∧ I (6 + s) ≠ 0 ∧ nmE (zV z) (I (6 + s) % 4096) = nmA z a) ∨ (r = -1 ∧ ∀ s, s < 48 → I (6 + s) ≠ 0 → nmE (zV z) (I (6 + s) % 4096) ≠ nmA z a) := by
        intro L hL2 hne
        have hrec := ih (i + 1) n (by omega) (by omega) (fun j hj => by
          by_cases q : j = i
          · rw [q]; exact hne
          · exact h3 j (by omega))
        rw [← hL2] at hrec
        unfold Tre_slotOf_b78 Tre_slotOf_b93
        by_cases e : (h0 + i) % 48 = 47
        · rw [e, if_pos i47, nI_1]
          rw [show (h0 + (i + 1)) % 48 = 0 by omega] at hrec
          exact hrec
        · rw [if_neg (ne47 (by omega) e), nI_1, nI_1]
          rw [show (h0 + (i + 1)) % 48 = (h0 + i) % 48 + 1 by omega] at hrec
          exact hrec
      have hls := lftS_s I h0 i m
      by_cases c : I (6 + (h0 + i) % 48) = 0
      · rw [if_pos c, Nat.zero_add] at hls
        rw [c, if_pos i00, hls]
        exact go _ rfl (fun q => absurd c q)
      · rw [if_neg c] at hls
        have hm1 : nI (lftS I h0 i (m + 1)) + (-1) = nI (lftS I h0 (i + 1) m) := by
          rw [hls, Nat.add_comm, pk_m1]
        obtain ⟨g1, g2⟩ := hsl _ hlt c
        rw [if_neg (ne0_I (hIw _) c), ush12 (hIw _), hm1]
        have hHlt : H < 2 ^ 20 := by rw [hH]; exact hashN_lt _
        have hIlt := hIw (6 + (h0 + i) % 48)
        by_cases ch : I (6 + (h0 + i) % 48) / 4096 = H
        · rw [if_pos (by rw [ch]), and4095 (hIw _), isName_z hF g1 ha hw hw4, Option.bind_some]
          by_cases cn : nmE (zV z) (I (6 + (h0 + i) % 48) % 4096) = nmA z a
          · rw [if_pos cn, if_neg (by decide)]
            exact Ev.ret (Or.inl ⟨_, hlt, rfl, c, cn⟩)
          · rw [if_neg cn, if_pos i00]
            exact go _ rfl (fun _ => cn)
        · rw [if_neg (fun q => ch ((nI_inj (by omega) (by omega)).mp q))]
          refine go _ rfl (fun _ q => ch ?_)
          rw [g2, hH]
          refine hashN_congr (fun j hj => ?_)
          exact hn_inj (f := fun t => zV z (I (6 + (h0 + i) % 48) % 4096) (2 + t)) (g := z.2 a) (n := 5) (fun j _ => by
            show cutW _ _ < _
            unfold cutW
            split
            · exact hw4 _
            · decide) (fun j _ => hw j) q j hj
theorem slotOf_s {FU : Nat} (hF : 140000 < FU) {z : NSt} {T R : TRE} {tk : TKS} {PP : Nat → Nat} {ch : List Nat} (h : NW z T R tk PP ch) {d a : Nat} (ha : a = 2 ∨ a = 3) (hd : T.kd d = 2) :
    Ev (Tre_slotOf FU a (nI d) (up z)) fun r => (∃ s, s < 48 ∧ r = nI s ∧ zV z (z.2 6 d) (6 + s) ≠ 0 ∧ nmE (zV z) (zV z (z.2 6 d) (6 + s) % 4096) = nmA z a) ∨ (r = -1 ∧ T.ent d (nmA z a) = 0) := by
  have hla : lenF a = 6 := by rcases ha with rfl | rfl <;> rfl
  obtain ⟨g1, g2, -⟩ := h.tok.rng d (by omega)
  have hi := h.tok.ids d g1 g2
  have hp0 : z.2 6 d ≠ 0 := fun q => by
    have := hi.pl.mp q
    omega
  obtain ⟨hD, hpar, h3⟩ := hi.dir hd
  obtain ⟨k0, k58, k61⟩ := hi.kd (by omega)
  have hIw : ∀ i, zV z (z.2 6 d) i < 2 ^ 32 := fun i => by
    show cutW _ _ < _
    unfold cutW
    split
    · exact h.wk.wd 4 (by decide) (by decide) _
    · decide
  unfold Tre_slotOf
  rw [show (0 : Int32) = nI 0 from rfl, hashOf_z (by omega) z a (by omega), Option.bind_some, show (1 : Int32) = nI 1 from rfl, Tre_wordOf_z FU h.wk.pb (by omega) (by decide), Option.bind_some, h.wI (by omega) (by decide)]
  obtain ⟨H, eH⟩ : ∃ H, H = hashN (fun j => z.2 a (0 + j)) := ⟨_, rfl⟩
  have hH : H < 2 ^ 20 := by rw [eH]; exact hashN_lt _
  have eH2 : H = hashN (z.2 a) := by
    rw [eH]
    exact hashN_congr (fun i _ => by rw [Nat.zero_add])
  rw [← eH, show (48 : Int32) = nI 48 from rfl, pk_rem (by omega) (by decide) (by decide)]
  have hL : zV z (z.2 6 d) 1 = lftS (zV z (z.2 6 d)) H 0 48 := by
    rw [hD.siz]
    unfold lftS
    rw [← sm_cyc _ H]
    exact sm_congr (fun j _ => by rw [Nat.add_zero])
  rw [hL]
  have hb := slotOf_b (FU := FU) (by omega) (a := a) (d := d) (H := H) (h0 := H) h.wk.pb (by omega) (I := zV z (z.2 6 d)) (fun s hs => h.wI (by omega) (by omega)) hIw eH2 hla (h.wk.wd a (by omega) (by omega)) (h.wk.wd 4 (by decide) (by decide)) (fun s hs q => ?_) 48 0 FU (by omega) (by omega) (fun j hj => by omega)
  · rw [Nat.add_zero] at hb
    refine hb.mono ?_
    rintro r (q | ⟨q1, q2⟩)
    · exact Or.inl q
    · refine Or.inr ⟨q1, ?_⟩
      refine Classical.byContradiction (fun w => ?_)
      obtain ⟨s, s1, s2, s3⟩ := hD.all _ w
      exact q2 s s1 s2 s3
  · have hb2 : BPL (zV z) (z.2 6) d s = zV z (z.2 6 d) (6 + s) % 4096 := BPL_d hp0 g2 (by rw [k0, hd]) hs
    have hr := h.wk.tr.rb h.wk.lg (n := d) (i := s) (by rw [hb2]; exact (hD.slot s hs q).1)
    rw [hb2] at hr
    exact ⟨hr.2.2.1, (hD.slot s hs q).2.1⟩
