/-! take -/
theorem NW.sm {z : NSt} {T R : TRE} {tk : TKS} {PP : Nat → Nat} {ch : List Nat} (h : NW z T R tk PP ch) (id : Nat) : smI z id := by
  unfold smI
  rw [h.kind]
  by_cases c : T.kd id = 0
  · rw [h.wd0 c, h.wd0 c, h.wd0 c, c]
    exact ⟨by decide, by decide, by decide, by decide⟩
  · obtain ⟨i1, i2, i3⟩ := h.tok.rng id c
    have hi := h.tok.ids id i1 i2
    rw [h.wI c (by decide), h.wI c (by decide), h.wI c (by decide)]
    rcases i3 with q | q
    · obtain ⟨f1, -, -⟩ := hi.fil q
      rw [f1.sz, f1.sml, f1.there, q]
      refine ⟨by decide, f1.szb, f1.smb, fun _ => ?_⟩
      have := thr_le (bpF (zV z) (z.2 6) id)
      unfold thr at this
      omega
    · obtain ⟨f1, -, f3⟩ := hi.dir q
      rw [f1.siz, f3, q]
      refine ⟨by decide, ?_, by decide, fun w => absurd w (by decide)⟩
      have := sm_bnd (f := fun s => if zV z (z.2 6 id) (6 + s) = 0 then 0 else 1) (n := 48) (c := 1) (fun s _ => by split <;> omega)
      omega
theorem Gd_le (z : NSt) : Gd z ≤ Gz z := sm_le (fun b _ => by
  by_cases c : GB z b ∧ dS z (sg b)
  · rw [if_pos c, if_pos c.1]; exact Nat.le_refl _
  · rw [if_neg c]; exact Nat.zero_le _)
theorem CM.uz {z y : NSt} (hz : LG z) (hy : LG y) (h : CM z y) : Uz z ≤ Uz y := by
  have h7 : z.1 7 ≤ y.1 7 := by
    rw [hy.1.2.2.2.1.2, hz.1.2.2.2.1.2]
    refine sm_le (fun i _ => ?_)
    rw [h.2.2.2.1]
    split
    · by_cases q : z.2 12 i = 0
      · omega
      · rw [(hz.1.2.2.2.1.1 i q).1]
        exact Nat.le_refl _
    · exact Nat.le_refl _
  unfold Uz
  rw [h.1 8 (by decide) (by decide), h.1 9 (by decide) (by decide)]
  omega
theorem take_s {FU : Nat} (hF : 140000 < FU) {z : NSt} {T : TRE} (hw : LG z ∧ TR (z.2 6) (BPL (zV z) (z.2 6)) (z.2 9) ∧ NUM (zV z) (z.2 6) ∧ WD z) (ht : TOK (zV z) (z.2 6) T) (hld : LED (zV z) (z.2 6) T) (hold : zV z (pkB (z.1 11)) 0 ≤ z.1 11) (hsu : zV z 0 0 = z.1 6 ∧ zV z 0 1 ≤ zV z 0 0 ∧ z.1 16 = 16 * (zV z 0 0 - zV z 0 1)) (hsm : ∀ id, smI z id) (hph : un z ≤ inUseN z) (hin : inUseN z < 2 ^ 28) (hU : 144 ≤ Uz z) (hroom : un z ≤ z.1 16) (hres : z.1 16 + 384 ≤ 16 * z.1 6) (hse : z.1 11 + 10010 < 2 ^ 31) (htk : z.1 19 + 1 < 2 ^ 31) :
    Ev (Chk_take FU (up z)) fun r => ∃ y, r = up y ∧ NW y T T (z.1 19 + 1, fun _ => false) (y.2 6) [] ∧ HK y ∧ mbf y ≤ y.1 7 ∧ y.1 19 = z.1 19 + 1 ∧ y.1 17 = inUseN z ∧ y.1 18 = 0 ∧ (∀ k, k ≤ 6 ∨ k = 16 ∨ 20 ≤ k → y.1 k = z.1 k) ∧ (∀ a, a ≤ 3 → y.2 a = z.2 a) ∧ (∀ n, n ≤ 250 → y.2 8 n = 0) ∧ (∀ n, n < 2048 → (y.2 7 n = 0 ↔ z.2 6 n = 0)) ∧ y.1 11 ≤ z.1 11 + 10001 ∧ SLK T z y := by
  obtain ⟨hl, htr, hnu, hwd⟩ := hw
  have hS := hl.1.1.2.1
  have hpb : PB z := fun n => by
    rcases htr.pb hl n with q | ⟨-, -, q, -⟩
    · omega
    · exact q
  unfold Chk_take
  simp (disch := omega) only [lit_nI, nI_ltI, nI_leI, nI_eq, nI_add, pk_sub, pk_div, nI_64, rdA_z, wrA_z, cpy_z, up1, up_I, nz_n0, nz_n1, zI1, zI2, zR1, zR2, zA1, zA2, Option.bind_some, nx_eq, if_true, if_false, if_pos, if_neg]
  have hb : Tre_blocksInUse FU (up (zI z 19 (z.1 19 + 1))) = some (nI (inUseN z)) := Tre_blocksInUse_z (by omega) (z := zI z 19 (z.1 19 + 1)) hpb hsm
  rw [hb]
  simp (disch := omega) only [lit_nI, nI_ltI, nI_leI, nI_eq, nI_add, pk_sub, pk_div, nI_64, rdA_z, wrA_z, cpy_z, up1, up_I, nz_n0, nz_n1, zI1, zI2, zR1, zR2, zA1, zA2, Option.bind_some, nx_eq, if_true, if_false, if_pos, if_neg]
  obtain ⟨z3, e3⟩ : ∃ z3, z3 = zI (zI (zI z 19 (z.1 19 + 1)) 17 (inUseN z)) 18 0 := ⟨_, rfl⟩
  have z32 : z3.2 = z.2 := by rw [e3]; rfl
  have z31 : ∀ k, k ≠ 17 → k ≠ 18 → k ≠ 19 → z3.1 k = z.1 k := fun k a b c => by rw [e3, zI1, if_neg b, zI1, if_neg a, zI1, if_neg c]
  have z317 : z3.1 17 = inUseN z := by rw [e3]; rfl
  have z318 : z3.1 18 = 0 := by rw [e3]; rfl
  have z319 : z3.1 19 = z.1 19 + 1 := by rw [e3]; rfl
  have hV3 : zV z3 = zV z := funext (zV_congr (by rw [z32]))
  have hl3 : LG z3 := by rw [e3]; exact ((hl.setI8 (by decide)).setI8 (by decide)).setI8 (by decide)
  have hU3 : Uz z3 = Uz z := Uz_frame (fun k _ _ => z31 k (by omega) (by omega) (by omega))
  rw [← e3]
  have z311 := z31 11 (by decide) (by decide) (by decide)
  refine (commit_s hF hl3 (by omega)).bd ?_
  rintro _ ⟨y, rfl, hy, hc⟩
  rw [Tab_settle_z y (by omega), Option.bind_some]
  obtain ⟨x, ex⟩ : ∃ x, x = settleZ y := ⟨_, rfl⟩
  rw [← ex]
  have x1 : x.1 = y.1 := by rw [ex]; rfl
  have xa : ∀ c, c ≠ 7 → c ≠ 8 → x.2 c = y.2 c := fun c c7 c8 => by
    rw [ex]
    unfold settleZ
    rw [zR2, if_neg c8, zR2, if_neg c7]
  have x7 : ∀ n, n < 2048 → x.2 7 n = y.2 6 n := fun n hn => by
    rw [ex]
    unfold settleZ
    rw [zR2, if_neg (by decide), zR2, if_pos rfl]
    unfold va_cpy
    rw [if_pos (by omega)]
    exact congrArg (y.2 6) (by omega)
  have x8 : ∀ n, n ≤ 250 → x.2 8 n = 0 := fun n hn => by
    rw [ex]
    unfold settleZ
    rw [zR2, if_pos rfl]
    exact if_pos ⟨by omega, by omega⟩
  have y6 : y.2 6 = z.2 6 := by rw [hc.2.2.1 6 (by decide) (by decide) (by decide) (by decide), z32]
  have x6 : x.2 6 = z.2 6 := by rw [xa 6 (by decide) (by decide), y6]
  have hkx : HK x := ⟨fun n hn => by rw [x7 n (by omega), x6, y6], fun n _ n2 q => by rw [x7 n n2, y6] at q; rw [x6]; exact q⟩
  have hwy7 : ∀ i, y.2 7 i < 2 ^ 32 := fun i => by rw [hc.2.2.1 7 (by decide) (by decide) (by decide) (by decide), z32]; exact hwd 7 (by decide) (by decide) i
  have hwy8 : ∀ i, y.2 8 i < 2 ^ 32 := fun i => by rw [hc.2.2.1 8 (by decide) (by decide) (by decide) (by decide), z32]; exact hwd 8 (by decide) (by decide) i
  have w7 : ∀ i, x.2 7 i < 2 ^ 32 := fun i => by
    rw [ex]
    unfold settleZ
    rw [zR2, if_neg (by decide), zR2, if_pos rfl]
    unfold va_cpy
    split
    · rw [y6]; exact hwd 6 (by decide) (by decide) _
    · exact hwy7 i
  have w8 : ∀ i, x.2 8 i < 2 ^ 32 := fun i => by
    rw [ex]
    unfold settleZ
    rw [zR2, if_pos rfl]
    unfold flN
    split
    · decide
    · exact hwy8 i
  have nx := commit_nw (z := z3) (y := y) (x := x) ⟨hl3, by rw [z32, hV3]; exact htr, by rw [z32, hV3]; exact hnu, fun a a1 a2 i => by rw [z32]; exact hwd a a1 a2 i⟩ (by rw [z32, hV3]; exact ht) (by rw [z32, hV3]; exact hld) (by rw [hV3, z311]; exact hold) (by rw [hV3, z31 6 (by decide) (by decide) (by decide), z31 16 (by decide) (by decide) (by decide)]; exact hsu) hy hc (by omega) x1 xa w7 w8 hkx (by omega)
  rw [z319, z32, ← x6] at nx
  have hlx := nx.wk.lg
  have s6 : x.1 6 = z.1 6 := by rw [x1, hc.1 6 (by decide) (by decide), z31 6 (by decide) (by decide) (by decide)]
  have hUy := hc.uz hl3 hy
  have hUx : Uz x = Uz y := Uz_frame (fun k _ _ => by rw [x1])
  have hux : un x = un z := by
    rw [un_congr (xa 9 (by decide) (by decide)), un_congr (hc.2.2.1 9 (by decide) (by decide) (by decide) (by decide))]
    exact un_congr (by rw [z32])
  have hp3 := parts3 hlx
  have hgd := Gd_le x
  have hM := Mz_le hlx
  have xs : ∀ k, k ≠ 7 → k ≠ 11 → k ≠ 17 → k ≠ 18 → k ≠ 19 → x.1 k = z.1 k := fun k a b c d e => by rw [x1, hc.1 k a b, z31 k c d e]
  have x17 : x.1 17 = inUseN z := by rw [x1, hc.1 17 (by decide) (by decide), z317]
  have x18 : x.1 18 = 0 := by rw [x1, hc.1 18 (by decide) (by decide), z318]
  have x19 : x.1 19 = z.1 19 + 1 := by rw [x1, hc.1 19 (by decide) (by decide), z319]
  have x11 : x.1 11 = z.1 11 + 1 := by rw [x1, hc.2.1, z311]
  have x16 := xs 16 (by decide) (by decide) (by decide) (by decide) (by decide)
  have hnd : ND x := fun s hs hd => by
    have := hc.nd s (by rw [← x1]; exact hs)
    rw [xa 12 (by decide) (by decide)]
    refine this ?_
    unfold deadB endB at hd ⊢
    rw [xa 10 (by decide) (by decide), xa 11 (by decide) (by decide), x1] at hd
    exact hd
  refine (takeLoop hF 10000 0 FU x (by omega) (by omega) ⟨by rw [x19], nx, hkx, hnd, by omega, by omega, by omega⟩ (by omega) (by omega)).mono ?_
  rintro r ⟨u, rfl, n1, n2, n3, n4, n5, n6⟩
  have hkp : ∀ b, z.2 9 b ≠ 0 → zV x b = zV z b := fun b hb => by
    have h1 := (hc.keep hl3 (b := b) (by rw [z32]; exact hb)).2
    rw [hV3] at h1
    rw [← h1]
    exact zV_congr (xa 4 (by decide) (by decide)) b
  have sl1 : SLK T z x := SLK.keep ht (fun d _ => by rw [x6]) (fun n q => hkp _ (by rw [(htr.2.1 _).mpr ⟨q, n, rfl⟩]; decide)) (fun i k q => hkp _ (by rw [(htr.2.2.1 _).mpr ⟨q, i, k, rfl⟩]; decide))
  refine ⟨u, rfl, n1, n2, n3, by rw [n4.1 19 (by omega), x19], by rw [n4.1 17 (by omega), x17], by rw [n4.1 18 (by omega), x18], fun k hk => ?_, fun a ha => ?_, fun n hn => by rw [n4.2.2.2]; exact x8 n hn, fun n hn => by rw [n4.2.2.1, x7 n hn, y6], by omega, sl1.trans n6⟩
  · rw [n4.1 k (by omega), xs k (by omega) (by omega) (by omega) (by omega) (by omega)]
  · rw [n4.2.1 a ha, xa a (by omega) (by omega), hc.2.2.1 a (by omega) (by omega) (by omega) (by omega), z32]
