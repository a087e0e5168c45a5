/-! format -/
theorem Uz_f {z : NSt} {n : Nat} (h : 16 * n + 32 ≤ Uz z) : n ≤ z.1 7 := by
  unfold Uz at h
  omega
theorem LG.setI8 {z : NSt} (h : LG z) {k v : Nat} (hk : k ≠ 5 ∧ k ≠ 6 ∧ k ≠ 7 ∧ k ≠ 8 ∧ k ≠ 9 ∧ k ≠ 10) : LG (zI z k v) := by
  obtain ⟨k5, k6, k7, k8, k9, k10⟩ := hk
  refine ⟨h.1.setI8 ⟨k5, k6, k7, k10⟩, ?_⟩
  have h2 := h.2
  unfold LGe isE at h2 ⊢
  rw [zI1, zI1, zI1, if_neg (Ne.symm k6), if_neg (Ne.symm k8), if_neg (Ne.symm k9)]
  exact h2
theorem LG.frame {z y : NSt} (h : LG z) (h1 : ∀ k, 5 ≤ k → k ≤ 10 → y.1 k = z.1 k) (h2 : ∀ a, a = 4 ∨ a = 5 ∨ a = 9 ∨ a = 10 ∨ a = 11 ∨ a = 12 → y.2 a = z.2 a) : LG y := by
  obtain ⟨⟨a1, a2, a3, a4, a5, a6⟩, a7⟩ := h
  have e4 := h2 4 (by omega)
  have e5 := h2 5 (by omega)
  have e9 := h2 9 (by omega)
  have e10 := h2 10 (by omega)
  have e11 := h2 11 (by omega)
  have e12 := h2 12 (by omega)
  refine ⟨⟨?_, ?_, ?_, ?_, ?_, ?_⟩, ?_⟩
  · unfold LGs; rw [h1 6 (by omega) (by omega), h1 10 (by omega) (by omega)]; exact a1
  · unfold LGu; rw [e9, e5, h1 6 (by omega) (by omega)]; exact a2
  · unfold LGc; rw [e9, e10, e11]; exact a3
  · unfold LGf; rw [e12, e5, h1 6 (by omega) (by omega), h1 7 (by omega) (by omega)]; exact a4
  · unfold LGw zW; rw [e4, e5]; exact a5
  · unfold LGp; rw [e10, e11, h1 5 (by omega) (by omega)]; exact a6
  · unfold LGe isE at a7 ⊢
    rw [e12, e5, e10, e11, h1 6 (by omega) (by omega), h1 8 (by omega) (by omega), h1 9 (by omega) (by omega)]
    exact a7
theorem Uz_frame {z y : NSt} (h1 : ∀ k, 5 ≤ k → k ≤ 10 → y.1 k = z.1 k) : Uz y = Uz z := by
  unfold Uz
  rw [h1 7 (by omega) (by omega), h1 8 (by omega) (by omega), h1 9 (by omega) (by omega)]
/-- a new inode's words -/
def nwI (id kind lp i : Nat) : Nat := if i = 61 then id else if i = 3 then (if kind = 1 then 1 else 0) else if i = 2 then lp else if i = 0 then kind else 0
theorem putNew_s {FU : Nat} (hF : 140000 < FU) {z : NSt} (h : LG z) (hU : 33 ≤ Uz z) {id kind lp : Nat} (h1 : 1 ≤ id) (h2 : id ≤ 250) (hk : kind = 1 ∨ kind = 2) (hpn : z.2 6 id = 0 ∨ z.2 9 (z.2 6 id) ≠ 0) :
    Ev (Tre_putNew FU (nI id) (nI kind) (nI lp) (up z)) fun r => ∃ x y, r = up y ∧ x.1 = z.1 ∧ (∀ a, a ≠ 17 → x.2 a = z.2 a) ∧ (∀ i, i < 64 → x.2 17 i = nwI id kind lp i) ∧ (∀ i, 64 ≤ i → x.2 17 i = z.2 17 i) ∧ LG y ∧ PN x 17 id 0 y := by
  have key : ∀ v, v = (if kind = 1 then 1 else 0) → Ev (Tre_putNew_b37 FU (nI id) (nI v) (3 : Int32) (up (zA (zA (zR z 17 (flN (z.2 17) 0 (lenF 17) 0)) 17 0 kind) 17 2 lp))) fun r => ∃ x y, r = up y ∧ x.1 = z.1 ∧ (∀ a, a ≠ 17 → x.2 a = z.2 a) ∧ (∀ i, i < 64 → x.2 17 i = nwI id kind lp i) ∧ (∀ i, 64 ≤ i → x.2 17 i = z.2 17 i) ∧ LG y ∧ PN x 17 id 0 y := by
    intro v hv
    unfold Tre_putNew_b37
    simp (disch := omega) only [lit_nI, nI_ltI, nI_leI, nI_eq, nI_add, pk_sub, pk_div, nI_64, rdA_z, wrA_z, cpy_z, up1, up_I, nz_n0, nz_n1, zI1, zI2, zR1, zR2, zA1, zA2, Option.bind_some, nx_eq, if_true, if_false, if_pos, if_neg]
    obtain ⟨x, ex⟩ : ∃ x, x = zA (zA (zA (zA (zR z 17 (flN (z.2 17) 0 (lenF 17) 0)) 17 0 kind) 17 2 lp) 17 3 v) 17 61 id := ⟨_, rfl⟩
    rw [← ex]
    have xa : ∀ a, a ≠ 17 → x.2 a = z.2 a := fun a ha => by
      rw [ex]
      simp only [zA2, zR2, if_neg ha]
    have x1 : x.1 = z.1 := by rw [ex]; rfl
    have x17 : ∀ i, i < 64 → x.2 17 i = nwI id kind lp i := fun i hi => by
      rw [ex]
      simp only [zA2, zR2, if_true]
      unfold va_up nwI flN
      rw [← hv]
      by_cases c61 : i = 61
      · rw [if_pos c61, if_pos c61]
      · rw [if_neg c61, if_neg c61]
        by_cases c3 : i = 3
        · rw [if_pos c3, if_pos c3]
        · rw [if_neg c3, if_neg c3]
          by_cases c2 : i = 2
          · rw [if_pos c2, if_pos c2]
          · rw [if_neg c2, if_neg c2]
            by_cases c0 : i = 0
            · rw [if_pos c0, if_pos c0]
            · rw [if_neg c0, if_neg c0, if_pos ⟨by omega, by show i < 64; exact hi⟩]
    have x17' : ∀ i, 64 ≤ i → x.2 17 i = z.2 17 i := fun i hi => by
      rw [ex]
      simp only [zA2, zR2, if_true]
      unfold va_up flN
      rw [if_neg (by omega), if_neg (by omega), if_neg (by omega), if_neg (by omega), if_neg (fun q => by have : i < 64 := q.2; omega)]
    have hx : LG x := h.frame (fun k _ _ => by rw [x1]) (fun a ha => xa a (by omega))
    have hUx : Uz x = Uz z := Uz_frame (fun k _ _ => by rw [x1])
    refine (putNode_s (k := 0) (by omega) rfl (by decide) hx (by omega) h1 (by omega) (by rw [xa 6 (by decide), xa 9 (by decide)]; exact hpn)).bd ?_
    rintro r ⟨y, rfl, hy, hpn⟩
    exact Ev.ret ⟨x, y, rfl, x1, xa, x17, x17', hy, hpn⟩
  unfold Tre_putNew
  rw [show (0 : Int32) = nI 0 from rfl, fill0_z 17 0 z (by show 64 < FU; omega)]
  simp (disch := omega) only [lit_nI, nI_ltI, nI_leI, nI_eq, nI_add, pk_sub, pk_div, nI_64, rdA_z, wrA_z, cpy_z, up1, up_I, nz_n0, nz_n1, zI1, zI2, zR1, zR2, zA1, zA2, Option.bind_some, nx_eq, if_true, if_false, if_pos, if_neg]
  rcases hk with rfl | rfl
  · simp (disch := omega) only [lit_nI, nI_ltI, nI_leI, nI_eq, nI_add, pk_sub, pk_div, nI_64, rdA_z, wrA_z, cpy_z, up1, up_I, nz_n0, nz_n1, zI1, zI2, zR1, zR2, zA1, zA2, Option.bind_some, nx_eq, if_true, if_false, if_pos, if_neg]
    exact key 1 rfl
  · simp (disch := omega) only [lit_nI, nI_ltI, nI_leI, nI_eq, nI_add, pk_sub, pk_div, nI_64, rdA_z, wrA_z, cpy_z, up1, up_I, nz_n0, nz_n1, zI1, zI2, zR1, zR2, zA1, zA2, Option.bind_some, nx_eq, if_true, if_false, if_pos, if_neg]
    exact key 0 rfl
theorem take_easy {FU : Nat} (hF : 140000 < FU) {z : NSt} (h : LG z) (hP : PB z) (hs : ∀ id, smI z id) (hr : inUseN z ≤ z.1 16) (hr2 : z.1 16 < 2 ^ 30) (hser : z.1 11 + 1 < 2 ^ 31)
    (hfree : ∀ y, LG y → CM (zI (zI (zI z 19 (z.1 19 + 1)) 17 (inUseN z)) 18 0) y → (z.1 16 - inUseN z + 15) / 16 + 10 ≤ y.1 7) :
    Ev (Chk_take FU (up z)) fun r => ∃ y x, r = up x ∧ LG y ∧ CM (zI (zI (zI z 19 (z.1 19 + 1)) 17 (inUseN z)) 18 0) y ∧ x = settleZ y := by
  unfold Chk_take
  have e1 : ∀ k v, (zI z k v).2 = z.2 := fun _ _ => rfl
  simp (disch := omega) only [lit_nI, nI_ltI, nI_leI, nI_eq, nI_add, pk_sub, pk_div, nI_64, rdA_z, wrA_z, cpy_z, up1, up_I, nz_n0, nz_n1, zI1, zI2, zR1, zR2, zA1, zA2, Option.bind_some, nx_eq, if_true, if_false, if_pos, if_neg]
  have hb : Tre_blocksInUse FU (up (zI z 19 (z.1 19 + 1))) = some (nI (inUseN z)) := Tre_blocksInUse_z (by omega) (z := zI z 19 (z.1 19 + 1)) hP hs
  rw [hb]
  simp (disch := omega) only [lit_nI, nI_ltI, nI_leI, nI_eq, nI_add, pk_sub, pk_div, nI_64, rdA_z, wrA_z, cpy_z, up1, up_I, nz_n0, nz_n1, zI1, zI2, zR1, zR2, zA1, zA2, Option.bind_some, nx_eq, if_true, if_false, if_pos, if_neg]
  have hz3 : LG (zI (zI (zI z 19 (z.1 19 + 1)) 17 (inUseN z)) 18 0) := ((h.setI8 (by decide)).setI8 (by decide)).setI8 (by decide)
  refine (commit_s hF hz3 hser).bd ?_
  rintro r ⟨y, rfl, hy, hc⟩
  have hff := hfree y hy hc
  rw [Tab_settle_z y (by omega), Option.bind_some]
  have y16 : (settleZ y).1 16 = z.1 16 := hc.1 16 (by decide) (by decide)
  have y17 : (settleZ y).1 17 = inUseN z := hc.1 17 (by decide) (by decide)
  have y18 : (settleZ y).1 18 = 0 := hc.1 18 (by decide) (by decide)
  have hm : mbf (settleZ y) = (z.1 16 - inUseN z + 15) / 16 + 10 := by
    unfold mbf
    rw [y16, y17, y18]
    rfl
  have h7 : (settleZ y).1 7 = y.1 7 := rfl
  have h7b : y.1 7 ≤ 128 := by
    rw [hy.1.2.2.2.1.2]
    have := sm_le (f := y.2 12) (g := fun _ => 1) (n := 128) (fun i _ => by
      by_cases q : y.2 12 i = 0
      · rw [q]; exact Nat.zero_le _
      · rw [(hy.1.2.2.2.1.1 i q).1]; exact Nat.le_refl _)
    rw [sm_const] at this
    omega
  obtain ⟨FU, rfl⟩ : ∃ q, FU = q + 1 := ⟨FU - 1, by omega⟩
  unfold Chk_take_b39 Log_freeSegments
  rw [Chk_mustBeFree_z _ (by omega) (by omega), hm]
  simp (disch := omega) only [lit_nI, nI_ltI, nI_leI, nI_eq, nI_add, pk_sub, pk_div, nI_64, rdA_z, wrA_z, cpy_z, up1, up_I, nz_n0, nz_n1, zI1, zI2, zR1, zR2, zA1, zA2, Option.bind_some, nx_eq, if_true, if_false, if_pos, if_neg, h7]
  exact Ev.ret ⟨y, _, rfl, hy, hc, rfl⟩
/-- what format leaves -/
def FMT (s r : Nat) (z x : NSt) : Prop := ∃ z0 z1 z2 z3 y : NSt, LG z0 ∧ NEW s r (zI (zI z 3 4294967295) 4 0) z0 ∧ z1.1 = z0.1 ∧ (∀ a, a ≠ 17 → z1.2 a = z0.2 a) ∧ (∀ i, i < 64 → z1.2 17 i = nwI 1 2 0 i) ∧ LG z2 ∧ PN z1 17 1 0 z2 ∧ z3 = zI (zI (zI z2 19 1) 17 1) 18 0 ∧ LG y ∧ CM z3 y ∧ x = zI (settleZ y) 2 2
theorem format_s {FU : Nat} (hF : 140000 < FU) {z : NSt} (hb : BS z) (hP : ∀ n, 2048 ≤ n → z.2 6 n = 0) {s r : Nat} (hs1 : 48 ≤ s) (hs2 : s ≤ 128) (hr1 : 24 ≤ r) (hr2 : r ≤ s / 2) : Ev (FF_format FU (nI s) (nI r) (up z)) fun w => ∃ x, w = (0, 0, up x) ∧ FMT s r z x := by
  unfold FF_format
  have e1 : (-1 : Int32) = nI 4294967295 := by decide
  rw [e1]
  simp (disch := omega) only [lit_nI, nI_ltI, nI_leI, nI_eq, nI_add, pk_sub, pk_div, nI_64, rdA_z, wrA_z, cpy_z, up1, up_I, nz_n0, nz_n1, zI1, zI2, zR1, zR2, zA1, zA2, Option.bind_some, nx_eq, if_true, if_false, if_pos, if_neg]
  refine (startAnew_s (z := zI (zI z 3 4294967295) 4 0) hF hb hs1 hs2 (by omega)).bd ?_
  rintro _ ⟨z0, rfl, h0, hn⟩
  obtain ⟨n1, n2, n3, n4, n5, n6, n7, n8, n9, n10, n11, n12, n13, n14, n15, n16, n17⟩ := id hn
  unfold Tre_makeRoot
  rw [show (1 : Int32) = nI 1 from rfl, show (2 : Int32) = nI 2 from rfl, show (0 : Int32) = nI 0 from rfl]
  have hroot := putNew_s (lp := 0) hF h0 (by omega) (id := 1) (kind := 2) (by decide) (by decide) (Or.inr rfl) (Or.inl (n7 1 (by decide)).1)
  obtain ⟨w, ew, z1, z2, rfl, x1, xa, x17, -, h2, hpn⟩ := hroot
  rw [ew, Option.bind_some, Option.bind_some]
  obtain ⟨p1, p2, p3, p4, p5, p6, p7, p8, p9, p10, p11, p12, p13⟩ := id hpn
  have hq : z1.1 8 = z0.1 8 := by rw [x1]
  have he0 := h0.end8
  have P2 : ∀ n, z2.2 6 n = if n = 1 then z0.1 8 else 0 := fun n => by
    rw [p3, xa 6 (by decide), hq]
    unfold va_up
    by_cases c : n = 1
    · rw [if_pos c, if_pos c]
    · rw [if_neg c, if_neg c]
      by_cases d : n < 2048
      · exact (n7 n d).1
      · rw [n17 n (by omega)]; exact hP n (by omega)
  have hPB : PB z2 := fun n => by
    rw [P2]
    split
    · exact he0.2.2.1
    · decide
  have W2 : ∀ i, i < 64 → zW z2 (z0.1 8) i = ndW (z1.2 17) 1 0 (z1.1 11) (z2.1 8) i := fun i hi => by
    unfold zW
    rw [p1, hq, cpy_zW _ _ _ _ _ hi, if_pos rfl]
  have wd : ∀ id i, i < 58 → wdI z2 id i = if id = 1 then nwI 1 2 0 i else 0 := fun id i hi => by
    unfold wdI
    rw [P2]
    by_cases c : id = 1
    · rw [if_pos c, if_pos c, if_pos ⟨by omega, by omega, by omega⟩, W2 i (by omega)]
      unfold ndW
      rw [if_neg (by omega), if_neg (by omega), if_neg (by omega), if_neg (by omega), x17 i (by omega)]
    · rw [if_neg c, if_neg c, if_neg (fun q => q.2.2 rfl)]
  have hsm : ∀ id, smI z2 id := fun id => by
    unfold smI
    rw [wd id 0 (by decide), wd id 1 (by decide), wd id 3 (by decide), wd id 4 (by decide)]
    by_cases c : id = 1
    · simp only [if_pos c]
      decide
    · simp only [if_neg c]
      decide
  have hbl : ∀ id, blI z2 id = if id = 1 then 1 else 0 := fun id => by
    unfold blI
    rw [wd id 0 (by decide), wd id 1 (by decide)]
    by_cases c : id = 1
    · simp only [if_pos c]
      rfl
    · simp only [if_neg c]
      rfl
  have hin : inUseN z2 = 1 := by
    unfold inUseN
    have e : ∀ j, j < 250 → blI z2 (1 + j) = va_up (fun _ => 0) 0 1 j := fun j _ => by
      rw [hbl]
      unfold va_up
      by_cases c : j = 0
      · rw [if_pos (by omega), if_pos c]
      · rw [if_neg (by omega), if_neg c]
    rw [sm_congr e]
    have := sm_up (f := fun _ => 0) (i := 0) (v := 1) (n := 250) (by decide)
    rw [sm_const] at this
    omega
  have s2 : ∀ k, k ≠ 7 → k ≠ 8 → k ≠ 10 → z2.1 k = z0.1 k := fun k a b c => by rw [p7 k a b c, x1]
  have hU2 : Uz z2 + 1 = 16 * s := by
    have : Uz z1 = Uz z0 := by unfold Uz; rw [x1]
    omega
  have r16 : z2.1 16 = 16 * (s - r) := by rw [s2 16 (by decide) (by decide) (by decide), n2]
  have r11 : z2.1 11 = 0 := by rw [s2 11 (by decide) (by decide) (by decide), n6]
  have r19 : z2.1 19 = 0 := by rw [s2 19 (by decide) (by decide) (by decide), n5]
  refine (take_easy hF h2 hPB hsm (by omega) (by omega) (by omega) (fun y hy hc => ?_)).bd ?_
  · obtain ⟨c1, c2, c3, c4, c5, c6, c7⟩ := hc
    have hle : z2.1 7 ≤ y.1 7 := by
      rw [hy.1.2.2.2.1.2, h2.1.2.2.2.1.2]
      refine sm_le (fun i _ => ?_)
      rw [c4]
      split
      · by_cases q : z2.2 12 i = 0
        · omega
        · rw [(h2.1.2.2.2.1.1 i q).1]
          exact Nat.le_refl _
      · exact Nat.le_refl _
    have := Uz_f (z := z2) (n := s - 3) (by omega)
    rw [r16, hin]
    omega
  · rintro _ ⟨y, x, rfl, hy, hc, rfl⟩
    simp (disch := omega) only [lit_nI, nI_ltI, nI_leI, nI_eq, nI_add, pk_sub, pk_div, nI_64, rdA_z, wrA_z, cpy_z, up1, up_I, nz_n0, nz_n1, zI1, zI2, zR1, zR2, zA1, zA2, Option.bind_some, nx_eq, if_true, if_false, if_pos, if_neg]
    rw [r19, hin] at hc
    refine Ev.ret ⟨zI (settleZ y) 2 2, rfl, z0, z1, z2, _, y, h0, hn, x1, xa, x17, h2, hpn, rfl, hy, hc, rfl⟩
