/-! nodes of a file are stored -/
theorem MIC.store {z y z0 : NSt} {R : TRE} {tk : TKS} {PP : Nat → Nat} {ch ch' : List Nat} {id : Nat} {bp : Nat → Nat} {dirty dirty' : Nat → Prop} {o n' a lvl : Nat} (h : MIC z z0 R tk PP ch id bp dirty) (w : WK y (va_up (BPL (zV z0) (z0.2 6)) id bp) R tk PP ch') (kw : KW z y) (s12 : y.1 12 = z.1 12) (hfr : FR z y ∧ y.2 8 = z.2 8) (hkc : KC y + Uz y ≤ KC z + Uz z) (num : ∀ j, j ≤ 7 → nuI y j = if j = o then n' else nuI z j) (hI : ∀ i, i ≠ 26 → i ≠ 27 → i ≠ 28 → i < 62 → y.2 13 i = z.2 13 i) (hX : ∀ i, 5 ≤ i → i < 56 → y.2 14 i = z.2 14 i) (hXc : ¬ dirty' 0 → ∀ i, i < 56 → y.2 14 i = z.2 14 i) (hP : ∀ m, m ≠ n' → m ≠ nuI z o → y.2 6 m = z.2 6 m)
    (cs : (n' = 0 ∧ (∀ i, i < 56 → z.2 a i = 0) ∧ (nuI z o ≠ 0 → y.2 6 (nuI z o) = 0)) ∨ (n' ≠ 0 ∧ 250 < n' ∧ n' < 2048 ∧ y.2 6 n' ≠ 0 ∧ zV y (y.2 6 n') 61 = id ∧ zV y (y.2 6 n') 58 = lvl ∧ (∀ i, i < 56 → zV y (y.2 6 n') i = z.2 a i) ∧ (∃ i, i < 56 ∧ z.2 a i ≠ 0) ∧ (nuI z o ≠ 0 → n' = nuI z o) ∧ (nuI z o = 0 → z.2 6 n' = 0))) (hcont : ∀ i, i < 56 → z.2 a i = cnt' z bp o i) (hdir : ∀ j, ¬ dirty' j → j ≠ o → ¬ dirty j) (ho : o ≤ 7) (hlvl : lvl = if o = 0 then 2 else 1) : MIC y z0 R tk PP ch' id bp dirty' := by
  have hnuo : nuI z o = 0 ∨ (nuI z o ≠ 0 ∧ 250 < nuI z o ∧ z.2 6 (nuI z o) ≠ 0 ∧ zV z (z.2 6 (nuI z o)) 61 = id) := by
    by_cases c : nuI z o = 0
    · exact Or.inl c
    · obtain ⟨r1, r2, r3, r4, r5⟩ := h.rg o ho c
      exact Or.inr ⟨c, r1, r3, r4⟩
  have zk : ∀ n, z.2 6 n ≠ 0 → zV y (z.2 6 n) = zV z (z.2 6 n) := fun n q => (kw.1 _ (by rw [(h.wk.p1 q).1]; decide)).2
  have hn' : n' = 0 ∨ (n' ≠ 0 ∧ 250 < n') := by
    rcases cs with ⟨q, -⟩ | ⟨q1, q2, -⟩
    · exact Or.inl q
    · exact Or.inr ⟨q1, q2⟩
  -- another number of this file, or of another one
  have hne' : ∀ m, 250 < m → z.2 6 m ≠ 0 → m ≠ nuI z o → m ≠ n' := fun m m1 m2 m3 e => by
    rcases cs with ⟨q, -⟩ | ⟨q1, -, -, -, -, -, -, -, q2, q3⟩
    · omega
    · by_cases c : nuI z o = 0
      · rw [e] at m2; exact m2 (q3 c)
      · exact m3 (by rw [e, q2 c])
  have hoth : ∀ j, j ≤ 7 → j ≠ o → nuI z j ≠ 0 → y.2 6 (nuI z j) = z.2 6 (nuI z j) := fun j hj jo q => by
    obtain ⟨r1, r2, r3, r4, r5⟩ := h.rg j hj q
    have m3 : nuI z j ≠ nuI z o := fun e => jo (h.nj j o hj ho q e)
    exact hP _ (hne' _ r1 r3 m3) m3
  have hc' : ∀ j i, j ≤ 7 → i < 56 → ¬ dirty' j → cnt' y bp j i = cnt' z bp j i := fun j i hj hi q => by
    unfold cnt'
    by_cases c : j = 0
    · rw [if_pos c, if_pos c]
      rw [c] at q
      exact hXc q i hi
    · rw [if_neg c, if_neg c]
  refine ⟨w, h.kw.trans kw, h.w0, by rw [s12]; exact h.hid, fun n hn => ?_, fun n n1 n2 n3 => ?_, fun n n1 n2 => ?_, fun i i1 i2 => by rw [hX i i1 i2]; exact h.xz i i1 i2, fun j hj q => ?_, fun j j' hj hj' q e => ?_, fun k hk => by rw [hI _ (by omega) (by omega) (by omega) (by omega)]; exact h.b0 k hk, h.b9, fun j hj q => ?_, ?_, Nat.le_trans hkc h.kc, ⟨h.fr.1.trans hfr.1, by rw [hfr.2, h.fr.2]⟩⟩
  · by_cases c : n = 0
    · have y0 : y.2 6 0 = 0 := by
        refine Classical.byContradiction (fun q => ?_)
        have := (w.nu 0 q).1
        omega
      have z0' : z.2 6 0 = 0 := by
        refine Classical.byContradiction (fun q => ?_)
        have := (h.wk.nu 0 q).1
        omega
      have := h.pid 0 (by omega)
      rw [c, y0, ← this, z0']
    · rw [hP n (by omega) (by omega)]
      exact h.pid n hn
  · have e := h.pot n n1 n2 n3
    have hz : z.2 6 n ≠ 0 := by rw [e]; exact n2
    have m3 : n ≠ nuI z o := fun q => by
      rcases hnuo with c | ⟨-, -, -, c⟩
      · omega
      · rw [← q, e] at c
        rw [(h.kw.1 _ (h.w0 n n2)).2] at c
        exact n3 c
    rw [hP n (hne' n n1 hz m3) m3]
    exact e
  · by_cases c : n = n'
    · left
      rcases cs with ⟨q, -⟩ | ⟨-, -, -, -, q, -⟩
      · omega
      · rw [c]
        exact ⟨q, o, ho, by rw [num o ho, if_pos rfl]⟩
    · by_cases c2 : n = nuI z o
      · exfalso
        rcases cs with ⟨q1, -, q3⟩ | ⟨-, -, -, -, -, -, -, -, q2, -⟩
        · rw [c2] at n2
          exact n2 (q3 (by omega))
        · exact c (by rw [c2, q2 (by omega)])
      · have e := hP n c c2
        rw [e] at n2 ⊢
        rw [zk n n2]
        rcases h.pnw n n1 n2 with ⟨q1, j, q2, q3⟩ | q
        · left
          refine ⟨q1, j, q2, ?_⟩
          rw [num j q2, if_neg (fun v => c2 (by rw [← q3, v]))]
          exact q3
        · exact Or.inr q
  · rw [num j hj] at q ⊢
    by_cases c : j = o
    · rw [if_pos c] at q ⊢
      rcases cs with ⟨q1, -⟩ | ⟨-, q2, q3, q4, q5, q6, -⟩
      · exact absurd q1 q
      · exact ⟨q2, q3, q4, q5, by rw [q6, hlvl, c]⟩
    · rw [if_neg c] at q ⊢
      obtain ⟨r1, r2, r3, r4, r5⟩ := h.rg j hj q
      rw [hoth j hj c q, zk _ r3]
      exact ⟨r1, r2, r3, r4, r5⟩
  · rw [num j hj] at q e
    rw [num j' hj'] at e
    by_cases c : j = o
    · by_cases c' : j' = o
      · rw [c, c']
      · exfalso
        rw [if_pos c] at q e
        rw [if_neg c'] at e
        have q' : nuI z j' ≠ 0 := by rw [← e]; exact q
        obtain ⟨r1, r2, r3, r4, r5⟩ := h.rg j' hj' q'
        have m3 : nuI z j' ≠ nuI z o := fun v => c' (h.nj j' o hj' ho q' v)
        exact hne' _ r1 r3 m3 e.symm
    · rw [if_neg c] at q e
      by_cases c' : j' = o
      · exfalso
        rw [if_pos c'] at e
        obtain ⟨r1, r2, r3, r4, r5⟩ := h.rg j hj q
        have m3 : nuI z j ≠ nuI z o := fun v => c (h.nj j o hj ho q v)
        exact hne' _ r1 r3 m3 e
      · rw [if_neg c'] at e
        exact h.nj j j' hj hj' q e
  · by_cases c : j = o
    · have hn : nuI y j = n' := by rw [num j hj, if_pos c]
      have hcc : ∀ i, i < 56 → cnt' y bp j i = z.2 a i := fun i hi => by
        rw [hc' j i hj hi q, c, hcont i hi]
      rw [hn]
      rcases cs with ⟨q1, q2, -⟩ | ⟨q1, -, -, -, -, -, q6, ⟨i, q7, q8⟩, -⟩
      · refine ⟨fun i hi => ?_, fun v => absurd q1 v⟩
        rw [hcc i hi, if_pos q1, q2 i hi]
      · refine ⟨fun i hi => ?_, fun _ => ⟨i, q7, ?_⟩⟩
        · rw [hcc i hi, if_neg q1, q6 i hi]
        · rw [hcc i q7]; exact q8
    · have hn : nuI y j = nuI z j := by rw [num j hj, if_neg c]
      obtain ⟨g1, g2⟩ := h.cl j hj (hdir j q c)
      rw [hn]
      refine ⟨fun i hi => ?_, fun v => ?_⟩
      · rw [hc' j i hj hi q, g1 i hi]
        by_cases v : nuI z j = 0
        · rw [if_pos v, if_pos v]
        · rw [if_neg v, if_neg v, hoth j hj c v, zk _ (h.rg j hj v).2.2.1]
      · obtain ⟨i, i1, i2⟩ := g2 v
        exact ⟨i, i1, by rw [hc' j i hj i1 q]; exact i2⟩
  · rw [hI 0 (by decide) (by decide) (by decide) (by decide), hI 58 (by decide) (by decide) (by decide) (by decide), hI 61 (by decide) (by decide) (by decide) (by decide)]
    exact h.i0
def MID (z z0 : NSt) (R : TRE) (tk : TKS) (PP : Nat → Nat) (ch : List Nat) (id : Nat) (bp : Nat → Nat) : Prop := (MIC z z0 R tk PP ch id bp (fun j => (j = z.1 13 ∧ 1 ≤ j ∧ z.1 14 = 1) ∨ (j = 0 ∧ z.1 15 = 1))) ∧ (z.1 13 ≤ 7) ∧ (z.1 14 ≤ 1) ∧ (z.1 15 ≤ 1) ∧ (z.1 13 = 0 → z.1 14 = 0) ∧ (1 ≤ z.1 13 → ∀ i, i < 56 → bp (20 + 56 * (z.1 13 - 1) + i) = z.2 15 i)
theorem MID.mc {z z0 : NSt} {R : TRE} {tk : TKS} {PP : Nat → Nat} {ch : List Nat} {id : Nat} {bp : Nat → Nat} (h9 : MID z z0 R tk PP ch id bp) : MIC z z0 R tk PP ch id bp (fun j => (j = z.1 13 ∧ 1 ≤ j ∧ z.1 14 = 1) ∨ (j = 0 ∧ z.1 15 = 1)) := h9.1
theorem MID.op {z z0 : NSt} {R : TRE} {tk : TKS} {PP : Nat → Nat} {ch : List Nat} {id : Nat} {bp : Nat → Nat} (h9 : MID z z0 R tk PP ch id bp) : z.1 13 ≤ 7 := h9.2.1
theorem MID.dc {z z0 : NSt} {R : TRE} {tk : TKS} {PP : Nat → Nat} {ch : List Nat} {id : Nat} {bp : Nat → Nat} (h9 : MID z z0 R tk PP ch id bp) : z.1 14 ≤ 1 := h9.2.2.1
theorem MID.ic {z z0 : NSt} {R : TRE} {tk : TKS} {PP : Nat → Nat} {ch : List Nat} {id : Nat} {bp : Nat → Nat} (h9 : MID z z0 R tk PP ch id bp) : z.1 15 ≤ 1 := h9.2.2.2.1
theorem MID.d0 {z z0 : NSt} {R : TRE} {tk : TKS} {PP : Nat → Nat} {ch : List Nat} {id : Nat} {bp : Nat → Nat} (h9 : MID z z0 R tk PP ch id bp) : z.1 13 = 0 → z.1 14 = 0 := h9.2.2.2.2.1
theorem MID.bo {z z0 : NSt} {R : TRE} {tk : TKS} {PP : Nat → Nat} {ch : List Nat} {id : Nat} {bp : Nat → Nat} (h9 : MID z z0 R tk PP ch id bp) : 1 ≤ z.1 13 → ∀ i, i < 56 → bp (20 + 56 * (z.1 13 - 1) + i) = z.2 15 i := h9.2.2.2.2.2
theorem nuI_lo {z : NSt} {j : Nat} (h1 : 1 ≤ j) (h2 : j < 3) : nuI z j = z.2 13 (25 + j) := by
  have c0 : ¬ j = 0 := by omega
  unfold nuI
  rw [if_neg c0, if_pos h2]
theorem nuI_hi {z : NSt} {j : Nat} (h1 : 3 ≤ j) : nuI z j = z.2 14 (j - 3) := by
  have c0 : ¬ j = 0 := by omega
  have c3 : ¬ j < 3 := by omega
  unfold nuI
  rw [if_neg c0, if_neg c3]
theorem numberOf_z (FU : Nat) (z : NSt) {j : Nat} (h1 : 1 ≤ j) (h2 : j ≤ 7) : Fil_numberOf FU (nI j) (up z) = some (nI (nuI z j)) := by
  unfold Fil_numberOf
  by_cases c : 3 ≤ j
  · rw [nuI_hi c]
    simp (disch := omega) only [lit_nI, nI_ltI, nI_leI, nI_eq, nI_add, pk_sub, pk_div, nI_64, rdA_z, wrA_z, cpy_z, up1, up_I, nz_n0, nz_n1, zI1, zI2, zR1, zR2, zA1, zA2, Option.bind_some, nx_eq, if_true, if_false, if_pos, if_neg]
  · rw [nuI_lo h1 (by omega), show 25 + j = 26 + j - 1 by omega]
    simp (disch := omega) only [lit_nI, nI_ltI, nI_leI, nI_eq, nI_add, pk_sub, pk_div, nI_64, rdA_z, wrA_z, cpy_z, up1, up_I, nz_n0, nz_n1, zI1, zI2, zR1, zR2, zA1, zA2, Option.bind_some, nx_eq, if_true, if_false, if_pos, if_neg]
def stN (z : NSt) (j v : Nat) : NSt := if j < 3 then zA z 13 (25 + j) v else if z.2 14 (j - 3) = v then z else zI (zA z 14 (j - 3) v) 15 1
theorem setNumber_z (FU : Nat) (z : NSt) {j v : Nat} (h1 : 1 ≤ j) (h2 : j ≤ 7) (hv : v < 2 ^ 32) (hx : z.2 14 (j - 3) < 2 ^ 32) : Fil_setNumber FU (nI j) (nI v) (up z) = some (up (stN z j v)) := by
  unfold Fil_setNumber stN
  by_cases c : 3 ≤ j
  · rw [if_neg (show ¬ j < 3 by omega)]
    by_cases e : z.2 14 (j - 3) = v
    · rw [if_pos e]
      simp (disch := omega) only [lit_nI, nI_ltI, nI_leI, nI_eq, nI_add, pk_sub, pk_div, nI_64, rdA_z, wrA_z, cpy_z, up1, up_I, nz_n0, nz_n1, zI1, zI2, zR1, zR2, zA1, zA2, Option.bind_some, nx_eq, if_true, if_false, if_pos, if_neg, e]
    · rw [if_neg e]
      have e' : ¬ nI (z.2 14 (j - 3)) = nI v := fun q => e ((nI_inj hx hv).mp q)
      simp (disch := omega) only [lit_nI, nI_ltI, nI_leI, nI_eq, nI_add, pk_sub, pk_div, nI_64, rdA_z, wrA_z, cpy_z, up1, up_I, nz_n0, nz_n1, zI1, zI2, zR1, zR2, zA1, zA2, Option.bind_some, nx_eq, if_true, if_false, if_pos, if_neg, e']
  · rw [if_pos (show j < 3 by omega), show 25 + j = 26 + j - 1 by omega]
    simp (disch := omega) only [lit_nI, nI_ltI, nI_leI, nI_eq, nI_add, pk_sub, pk_div, nI_64, rdA_z, wrA_z, cpy_z, up1, up_I, nz_n0, nz_n1, zI1, zI2, zR1, zR2, zA1, zA2, Option.bind_some, nx_eq, if_true, if_false, if_pos, if_neg]
theorem closeNode_s {FU : Nat} (hF : 140000 < FU) {z z0 : NSt} {R : TRE} {tk : TKS} {PP : Nat → Nat} {ch : List Nat} {id : Nat} {bp : Nat → Nat} (h : MID z z0 R tk PP ch id bp) (i1 : 1 ≤ id) (i2 : id ≤ 250) (hU : 33 ≤ Uz z) (hse : z.1 11 < 2 ^ 32) (hK : KC z < 1797) :
    Ev (Fil_closeNode FU (up z)) fun r => ∃ y ch', r = up y ∧ MID y z0 R tk PP ch' id bp ∧ y.1 14 = 0 ∧ y.1 13 = z.1 13 ∧ KW z y ∧ (∀ i, i ≠ 26 → i ≠ 27 → i < 62 → y.2 13 i = z.2 13 i) ∧ y.2 16 = z.2 16 ∧ Uz z ≤ Uz y + 1 ∧ Uz y ≤ Uz z ∧ ((∀ i, i < 56 → z.2 15 i = 0) → Uz y = Uz z) ∧ KC y + Uz y ≤ KC z + Uz z ∧ (z.1 14 = 0 → Uz y = Uz z) := by
  unfold Fil_closeNode
  simp only [up1]
  by_cases c : z.1 14 = 0
  · rw [c, if_pos i00]
    exact Ev.ret ⟨z, ch, rfl, h, c, rfl, KW.rf z, fun _ _ _ _ => rfl, rfl, by omega, Nat.le_refl _, fun _ => rfl, Nat.le_refl _, fun _ => rfl⟩
  · have hdc := h.dc
    have c1 : z.1 14 = 1 := by omega
    have ho1 : 1 ≤ z.1 13 := by
      have := h.d0
      omega
    have ho7 := h.op
    rw [c1, if_neg (by decide), numberOf_z FU z ho1 ho7, Option.bind_some]
    obtain ⟨o, eo⟩ : ∃ o, o = z.1 13 := ⟨_, rfl⟩
    rw [← eo] at ho1 ho7 ⊢
    refine (storeNode_s hF h.mc i1 i2 (o := o) (a := 15) (lvl := 1) (Or.inr ⟨ho1, ho7, rfl, rfl⟩) hU hse hK).bd ?_
    rintro _ ⟨x, ch', n', rfl, hw, sn⟩
    have hbo := h.bo (by omega)
    rw [← eo] at hbo
    have hx14 : x.2 14 = z.2 14 := sn.ar 14 (by decide) (by decide)
    have hx13 : x.2 13 = z.2 13 := sn.ar 13 (by decide) (by decide)
    have hn32 : n' < 2 ^ 32 := by
      rcases sn.cs with ⟨q, -⟩ | ⟨-, -, q, -⟩ <;> omega
    rw [setNumber_z FU x ho1 ho7 hn32 (by rw [hx14]; exact h.mc.wk.wd 14 (by decide) (by decide) _), Option.bind_some, show (0 : Int32) = nI 0 from rfl, nx_eq, up_I]
    obtain ⟨y, ey⟩ : ∃ y, y = zI (stN x o n') 14 0 := ⟨_, rfl⟩
    rw [← ey]
    -- what y is
    have y2 : ∀ c, c ≠ 13 → c ≠ 14 → y.2 c = x.2 c := fun c h13 h14 => by
      rw [ey, zI2]
      unfold stN
      split
      · rw [zA2, if_neg h13]
      · split
        · rfl
        · rw [zI2, zA2, if_neg h14]
    have y1 : ∀ k, k ≠ 14 → k ≠ 15 → y.1 k = x.1 k := fun k k14 k15 => by
      rw [ey, zI1, if_neg k14]
      unfold stN
      split
      · rfl
      · split
        · rfl
        · rw [zI1, if_neg k15]; rfl
    have y14 : y.1 14 = 0 := by rw [ey, zI1, if_pos rfl]
    have yI : ∀ i, y.2 13 i = if o < 3 ∧ i = 25 + o then n' else x.2 13 i := fun i => by
      rw [ey, zI2]
      unfold stN
      by_cases q : o < 3
      · rw [if_pos q, zA2, if_pos rfl]
        unfold va_up
        by_cases q2 : i = 25 + o
        · rw [if_pos q2, if_pos ⟨q, q2⟩]
        · rw [if_neg q2, if_neg (fun v => q2 v.2)]
      · rw [if_neg q, if_neg (show ¬ (o < 3 ∧ i = 25 + o) from fun v => q v.1)]
        split
        · rfl
        · rw [zI2, zA2, if_neg (by decide)]
    have yX : ∀ i, y.2 14 i = if 3 ≤ o ∧ i = o - 3 then n' else x.2 14 i := fun i => by
      rw [ey, zI2]
      unfold stN
      by_cases q : o < 3
      · rw [if_pos q, zA2, if_neg (by decide), if_neg (by omega)]
      · rw [if_neg q]
        by_cases q3 : x.2 14 (o - 3) = n'
        · rw [if_pos q3]
          by_cases q2 : i = o - 3
          · rw [if_pos ⟨by omega, q2⟩, q2, q3]
          · rw [if_neg (fun v => q2 v.2)]
        · rw [if_neg q3, zI2, zA2, if_pos rfl]
          unfold va_up
          by_cases q2 : i = o - 3
          · rw [if_pos q2, if_pos ⟨by omega, q2⟩]
          · rw [if_neg q2, if_neg (fun v => q2 v.2)]
    have y15 : y.1 15 = z.1 15 ∧ (∀ i, y.2 14 i = z.2 14 i) ∨ y.1 15 = 1 := by
      by_cases q : o < 3
      · left
        refine ⟨?_, fun i => ?_⟩
        · rw [ey, zI1, if_neg (by decide)]
          unfold stN
          rw [if_pos q]
          exact sn.sc 15 (by decide) (by decide) (by decide) (by decide)
        · rw [yX, if_neg (by omega), hx14]
      · by_cases q3 : x.2 14 (o - 3) = n'
        · left
          refine ⟨?_, fun i => ?_⟩
          · rw [ey, zI1, if_neg (by decide)]
            unfold stN
            rw [if_neg q, if_pos q3]
            exact sn.sc 15 (by decide) (by decide) (by decide) (by decide)
          · rw [yX, ← q3, hx14]
            by_cases q2 : 3 ≤ o ∧ i = o - 3
            · rw [if_pos q2, q2.2]
            · rw [if_neg q2]
        · right
          rw [ey, zI1, if_neg (by decide)]
          unfold stN
          rw [if_neg q, if_neg q3, zI1, if_pos rfl]
    have uY : Uz y = Uz x := Uz_frame (fun k _ _ => y1 k (by omega) (by omega))
    have wy : WK y (va_up (BPL (zV z0) (z0.2 6)) id bp) R tk PP ch' := by
      refine hw.mem (fun k _ _ => y1 k (by omega) (by omega)) (fun b _ _ _ _ => y2 b (by omega) (by omega)) (fun n _ => Or.inl (by rw [y2 7 (by decide) (by decide)])) (fun b b1 b2 i => ?_)
      by_cases q13 : b = 13
      · rw [q13, yI]
        split
        · exact hn32
        · exact hw.wd 13 (by decide) (by decide) i
      · by_cases q14 : b = 14
        · rw [q14, yX]
          split
          · exact hn32
          · exact hw.wd 14 (by decide) (by decide) i
        · rw [y2 b q13 q14]; exact hw.wd b b1 b2 i
    have kxy : KW x y := KW.of4 (y2 4 (by decide) (by decide)) (y2 5 (by decide) (by decide))
    have y6 : y.2 6 = x.2 6 := y2 6 (by decide) (by decide)
    have hVy : ∀ b, zV y b = zV x b := fun b => zV_congr (y2 4 (by decide) (by decide)) b
    have hnum : ∀ j, j ≤ 7 → nuI y j = if j = o then n' else nuI z j := fun j hj => by
      unfold nuI
      rw [yI, yI, yX, hx13, hx14]
      by_cases c0 : j = 0
      · rw [if_pos c0, if_neg (by omega), if_neg (by omega), if_pos c0]
      · rw [if_neg c0, if_neg c0]
        by_cases c3 : j < 3
        · rw [if_pos c3, if_pos c3]
          by_cases co : j = o
          · rw [if_pos co, if_pos ⟨by omega, by omega⟩]
          · rw [if_neg co, if_neg (by omega)]
        · rw [if_neg c3, if_neg c3]
          by_cases co : j = o
          · rw [if_pos co, if_pos ⟨by omega, by omega⟩]
          · rw [if_neg co, if_neg (by omega)]
    have hKy : KC y = KC x := KC_congr (y2 7 (by decide) (by decide))
    have hkc := sn.kc
    have hcs : Uz z ≤ Uz y + 1 ∧ Uz y ≤ Uz z ∧ ((∀ i, i < 56 → z.2 15 i = 0) → Uz y = Uz z) := by
      rcases sn.cs with ⟨-, -, -, q⟩ | ⟨-, -, -, -, -, -, -, ⟨i, q1, q2⟩, -, -, q⟩
      · exact ⟨by omega, by omega, fun _ => by omega⟩
      · exact ⟨by omega, by omega, fun v => absurd (v i q1) q2⟩
    have y13 : y.1 13 = o := by rw [y1 13 (by decide) (by decide), sn.sc 13 (by decide) (by decide) (by decide) (by decide), eo]
    have hmic : MIC y z0 R tk PP ch' id bp (fun j => (j = y.1 13 ∧ 1 ≤ j ∧ y.1 14 = 1) ∨ (j = 0 ∧ y.1 15 = 1)) := by
      refine h.mc.store (o := o) (n' := n') (a := 15) (lvl := 1) wy (sn.kw.trans kxy) ?_ ⟨⟨fun k a1 a2 a3 a4 a5 a6 a7 a8 => ?_, fun c hc => ?_⟩, ?_⟩ (by omega) hnum (fun i e1 e2 e3 e4 => ?_) (fun i e1 e2 => ?_) (fun q i _ => ?_) (fun m m1 m2 => by rw [y6]; exact sn.P m m1 m2) ?_ (fun i hi => ?_) (fun j q jo => ?_) ho7 (by rw [if_neg (by omega)])
      · rw [y1 12 (by decide) (by decide), sn.sc 12 (by decide) (by decide) (by decide) (by decide)]
      · rw [y1 k a7 a8, sn.sc k a1 a2 a3 a4]
      · rw [y2 c (by omega) (by omega), sn.f3.1 c hc]
      · rw [y2 8 (by decide) (by decide), sn.f3.2]
      · rw [yI, if_neg (by omega), hx13]
      · rw [yX, if_neg (by omega), hx14]
      · rcases y15 with ⟨-, v⟩ | v
        · exact v i
        · exact absurd (Or.inr ⟨rfl, v⟩) q
      · rcases sn.cs with ⟨q1, q2, q3, -⟩ | ⟨q1, q2, q3, q4, q5, q6, q7, q8, q9, q10, -⟩
        · exact Or.inl ⟨q1, q2, fun v => by rw [y6]; exact q3 v⟩
        · exact Or.inr ⟨q1, q2, q3, by rw [y6]; exact q4, by rw [y6, hVy]; exact q5, by rw [y6, hVy]; exact q6, fun i hi => by rw [y6, hVy]; exact q7 i hi, q8, q9, q10⟩
      · unfold cnt'
        rw [if_neg (by omega)]
        exact (hbo i hi).symm
      · rintro (⟨v1, v2, -⟩ | ⟨v1, v2⟩)
        · exact jo (by rw [v1, eo])
        · rcases y15 with ⟨v, -⟩ | v
          · exact q (Or.inr ⟨v1, by rw [v]; exact v2⟩)
          · exact q (Or.inr ⟨v1, v⟩)
    refine Ev.ret ⟨y, ch', rfl, ⟨hmic, by omega, by omega, ?_, fun _ => y14, fun _ i hi => ?_⟩, y14, by rw [y13], sn.kw.trans kxy, fun i e1 e2 e3 => ?_, ?_, hcs.1, hcs.2.1, hcs.2.2, by omega, fun q => absurd q (by decide)⟩
    · have := h.ic
      rcases y15 with ⟨v, -⟩ | v <;> omega
    · rw [y13, hbo i hi, y2 15 (by decide) (by decide), sn.aa i (by omega)]
    · rw [yI, if_neg (by omega), hx13]
    · rw [y2 16 (by decide) (by decide), sn.ar 16 (by decide) (by decide)]
