/-! the model: fsync, read -/
theorem MI.syn {w y : NSt} {A : AB} (h : MI w A) {f : Nat} (hf1 : 1 ≤ f) (hf : f ≤ 250) (hk : A.T.kd f = 1) (hp : PO y) (y1 : y.1 = w.1) (ya : ∀ a, a ≠ 3 → a ≠ 5 → a ≠ 6 → a ≠ 8 → a ≠ 10 → y.2 a = w.2 a) (y6 : y.2 6 = va_up (w.2 6) f 1) (y3 : y.2 3 = va_up (w.2 3) (251 * 2 + f) (w.2 3 (251 * 0 + f))) (y5 : y.2 5 = va_up (w.2 5) (251 * 2 + f) (w.2 5 (251 * 0 + f))) (y8 : ∀ j, y.2 8 j = if pcN 2 f 0 ≤ j ∧ j < pcN 2 f 391 then w.2 8 (pcN 0 f (j - pcN 2 f 0)) else w.2 8 j) : MI y ((A.w_S (va_up A.S f true)).w_F (va_up A.F f (A.T.fil f))) := by
  obtain ⟨B, eB⟩ : ∃ B, B = (A.w_S (va_up A.S f true)).w_F (va_up A.F f (A.T.fil f)) := ⟨_, rfl⟩
  rw [← eB]
  have bT : B.T = A.T := by rw [eB]; rfl
  have bO : B.O = A.O := by rw [eB]; rfl
  have bS : B.S = va_up A.S f true := by rw [eB]; rfl
  have bF : B.F = va_up A.F f (A.T.fil f) := by rw [eB]; rfl
  have br : B.rn = A.rn := by rw [eB]; rfl
  have b1 : B.dv = A.dv := by rw [eB]; rfl
  have b2 : B.ct = A.ct := by rw [eB]; rfl
  have b3 : B.tl = A.tl := by rw [eB]; rfl
  have b4 : B.ol = A.ol := by rw [eB]; rfl
  have b5 : B.tp = A.tp := by rw [eB]; rfl
  have b6 : B.tb = A.tb := by rw [eB]; rfl
  have b7 : B.rm = A.rm ∧ B.us = A.us ∧ B.fr = A.fr ∧ B.tk = A.tk ∧ B.fw = A.fw := by rw [eB]; exact ⟨rfl, rfl, rfl, rfl, rfl⟩
  have za : ∀ a, a = 0 ∨ a = 1 ∨ a = 2 ∨ a = 4 ∨ a = 7 ∨ a = 9 ∨ 11 ≤ a → y.2 a = w.2 a := fun a ha => ya a (by omega) (by omega) (by omega) (by omega) (by omega)
  have e8 : ∀ l id p, l ≤ 2 → id ≤ 250 → p < 391 → ¬ (l = 2 ∧ id = f) → y.2 8 (pcN l id p) = w.2 8 (pcN l id p) := fun l id p hl hid hp hne => by
    rw [y8, if_neg (fun q => hne ?_)]
    unfold pcN at q
    omega
  have e3 : ∀ j, j ≠ 251 * 2 + f → y.2 3 j = w.2 3 j := fun j hj => by rw [y3, va_up_ne _ _ hj]
  have e5 : ∀ j, j ≠ 251 * 2 + f → y.2 5 j = w.2 5 j := fun j hj => by rw [y5, va_up_ne _ _ hj]
  have e9 := za 9 (by omega)
  refine ⟨?_, ?_, ?_, ?_, ?_, ?_, ?_, ?_, ?_, ?_, ?_, ?_, ?_, ?_, ?_, ?_, ?_, hp⟩
  · rw [b1, y1]; exact h.dv
  · rw [b7.1, b7.2.1, b7.2.2.1, b7.2.2.2.1, b7.2.2.2.2, y1]; exact h.ms
  · rw [b2, y1]; exact h.ct
  · rw [b1, b2]; exact h.cd
  · rw [b3, y1]; exact h.tl
  · rw [b4, y1]; exact h.ol
  · rw [b5, za 0 (by omega)]; exact h.tp
  · rw [b6, b4, za 1 (by omega)]; exact h.tb
  · rw [bT, y1]; exact h.en.keep (za 11 (by omega)) (za 12 (by omega)) (za 13 (by omega)) (za 14 (by omega))
  · rw [bO, y1]; exact h.eo.keep (za 15 (by omega)) (za 16 (by omega)) (za 17 (by omega)) (za 18 (by omega))
  · rw [bT, bO, za 2 (by omega)]; exact h.kd
  · rw [bT, bO, za 4 (by omega)]; exact h.lk
  · intro id i1 i2
    rw [bS, y6]
    by_cases c : id = f
    · rw [c, va_up_self]; unfold va_up; rw [if_pos rfl]; rfl
    · rw [va_up_ne _ _ c, h.sy id i1 i2]
      unfold va_up
      rw [if_neg c]
  · rw [bT, br, za 7 (by omega)]; exact h.rn
  · intro id i1 i2
    rw [bT]
    have q8 : ∀ p, p < 391 → y.2 8 (pcN 0 id p) = w.2 8 (pcN 0 id p) := fun p hp => e8 0 id p (by decide) i2 hp (by omega)
    exact ⟨fun q => ((h.f0 id i1 i2).1 q).mv (e3 _ (by omega)) (e5 _ (by omega)) q8 e9, fun q => ((h.f0 id i1 i2).2 q).mv q8⟩
  · intro id i1 i2
    rw [bO]
    have q8 : ∀ p, p < 391 → y.2 8 (pcN 1 id p) = w.2 8 (pcN 1 id p) := fun p hp => e8 1 id p (by decide) i2 hp (by omega)
    exact ⟨fun q => ((h.f1 id i1 i2).1 q).mv (e3 _ (by omega)) (e5 _ (by omega)) q8 e9, fun q => ((h.f1 id i1 i2).2 q).mv q8⟩
  · intro id i1 i2
    rw [bS, bF]
    by_cases c : id = f
    · rw [c]
      unfold va_up
      rw [if_pos rfl, if_pos rfl]
      refine ⟨fun _ => ((h.f0 f hf1 hf).1 hk).mv (by rw [y3, va_up_self]) (by rw [y5, va_up_self]) (fun p hp => ?_) e9, fun q => absurd rfl q⟩
      rw [y8, if_pos (by unfold pcN; omega), show pcN 2 f p - pcN 2 f 0 = p by unfold pcN; omega]
    · unfold va_up
      rw [if_neg c, if_neg c]
      have q8 : ∀ p, p < 391 → y.2 8 (pcN 2 id p) = w.2 8 (pcN 2 id p) := fun p hp => e8 2 id p (by decide) i2 hp (by omega)
      exact ⟨fun q => ((h.f2 id i1 i2).1 q).mv (e3 _ (by omega)) (e5 _ (by omega)) q8 e9, fun q => ((h.f2 id i1 i2).2 q).mv q8⟩
theorem fs94 {FU : Nat} (hF : 140000 < FU) {w : NSt} {A : AB} (h : MI w A) (hd : A.dv = 2) (hT : TFA A.T) (h0 : w.1 0 = 0) : AnsM (Mod_fsync_b94 FU (up w)) (cutA A (0, 1, A.ckp)).1 (cutA A (0, 1, A.ckp)) := by
  unfold Mod_fsync_b94 cutA
  refine (checkpoint_z hF h hd hT).bd ?_
  rintro _ ⟨y, rfl, hy, y0, -⟩
  by_cases c : A.ct = 1
  · rw [if_pos c] at hy
    rw [if_pos c, if_pos c, if_pos i00, nx_eq, show (3 : Int32) = nI 3 from rfl, up_I, up1, zI1, if_pos rfl, if_neg (show ¬ nI 3 ≤ (0 : Int32) by decide)]
    exact AnsM.mk (hy.tw 3) (thw0 y 3) (fun q => by cases q)
  · rw [if_neg c] at hy
    rw [if_neg c, if_neg c, if_neg n1, up1, y0, h0, if_pos (show nI 0 ≤ (0 : Int32) by decide)]
    exact AnsM.mk hy (y0.trans h0) (fun _ => rfl)
theorem mo_fsync {FU : Nat} (hF : 140000 < FU) {w : NSt} {A : AB} (h : MH w A) {f : Nat} (hf : f < 2 ^ 32) : AnsM (Mod_fsync FU (nI f) (up w)) (fsyncA f A).1 (fsyncA f A) := by
  unfold Mod_fsync fsyncA
  refine off_m FU h.mi (fun x => if_neg n1) (fun hd hx x0 => ?_)
  obtain ⟨x, ex⟩ : ∃ x, x = thw w 0 := ⟨_, rfl⟩
  rw [← ex] at hx x0 ⊢
  have hA := h.tt hd
  have hT := hA.t
  rw [if_pos i00, show (1 : Int32) = nI 1 from rfl, is_z FU hx hT hf (by decide), Option.bind_some]
  unfold Mod_fsync_b24
  by_cases c1 : A.T.kd f = 1
  · obtain ⟨f1, f2, -⟩ := hT.rng f (by omega)
    rw [if_pos c1, if_neg n1, if_neg (show ¬ A.T.kd f ≠ 1 from fun q => q c1)]
    refine thr_m FU hx (a := 0) (b := 0) (by decide) (by decide) (fun x => if_neg n1) (fun q => by cases q) (fun _ q => by cases q) (fun _ _ hy y0 => ?_)
    rw [if_pos i00]
    refine stp_m hF hy hd hT h.ai (h.ub hd) (n := 1) (by decide) (fun x => if_neg n1) (fun r0 z hz z0 _ => ?_)
    rw [if_pos i00]
    have hB := (h.ai.rsv hT 1).1 r0
    have hBt := hA.rsv 1
    have bT := rsvB_T 1 A
    have bd : (rsvB 1 A).dv = 2 := (rsvB_dv r0).trans hd
    obtain ⟨B, eB⟩ : ∃ B, B = rsvB 1 A := ⟨_, rfl⟩
    rw [← eB] at hz hB hBt bT bd ⊢
    have k1 : B.T.kd f = 1 := by rw [bT]; exact c1
    have e2 := (hz.kd f f1 f2).2
    have hw2 := hz.po.wd 2 (251 + f)
    rw [e2] at hw2
    have e7 := (hz.rn f f1 f2).2 k1
    have hBT : TFA B.T := by rw [bT]; exact hT
    rw [show (251 : Int32) + nI f = nI (251 + f) from nI_add 251 f, rdA_z z 2 (by omega) (by decide), Option.bind_some, e2]
    by_cases r : B.rn f = true
    · have g : AnsM (Mod_fsync_b94 FU (up z)) (cutA B (0, 1, B.ckp)).1 (cutA B (0, 1, B.ckp)) := fs94 hF hz bd hBT z0
      rw [if_pos r]
      by_cases k : B.O.kd f = 1
      · rw [if_pos (show nI (B.O.kd f) = (1 : Int32) by rw [k]; rfl), rdA_z z 7 (by omega) (by decide), Option.bind_some, e7, if_pos r, if_neg n1]
        exact g
      · rw [if_neg (fun v : nI (B.O.kd f) = (1 : Int32) => k ((eqN hw2 (c := 1) (by decide)).mp v))]
        exact g
    · have k := (hB.fk f k1 (by cases hh : B.rn f with
        | false => rfl
        | true => exact absurd hh r)).1
      rw [if_neg r, if_pos (show nI (B.O.kd f) = (1 : Int32) by rw [k]; rfl), rdA_z z 7 (by omega) (by decide), Option.bind_some, e7, if_neg r, if_pos i00]
      refine (isCut_z FU hz bd).bd ?_
      rintro _ ⟨y, rfl, hy', yy, -⟩
      unfold cutA
      by_cases c : B.ct = 1
      · rw [if_pos c] at hy'
        rw [if_pos c, if_pos c, if_neg n1, nx_eq, show (3 : Int32) = nI 3 from rfl, up_I]
        exact AnsM.mk (hy'.tw 3) (thw0 y 3) (fun q => by cases q)
      · rw [if_neg c] at hy'
        rw [if_neg c, if_neg c, if_pos i00, show (0 : Int32) = nI 0 from rfl, show (2 : Int32) = nI 2 from rfl]
        have hp := (hy'.f0 f f1 f2).1 k1
        have h5 : y.2 5 (251 * 0 + f) ≤ 1 := by rw [hp.sml]; exact (hBT.fv f k1).smb
        refine (copyFile_z hF hy'.po (fl := 0) (tl := 2) (by decide) (by decide) (by decide) f2 h5).bd ?_
        rintro _ ⟨v, rfl, v1, v2, v3, v4, v5, v6⟩
        rw [show nz (1 : Int32) = nI 1 by decide, wrA_z v 6 (by omega) (by decide), Option.bind_some]
        refine AnsM.mk (hy'.syn f1 f2 k1 ?_ v2 (fun a a3 a5 a6 a8 a10 => ?_) ?_ ?_ ?_ ?_) ?_ (fun _ => rfl)
        · refine v1.keep v1.se rfl rfl (fun a j => ?_)
          rw [zA2]
          split
          · unfold va_up
            split
            · decide
            · exact v1.wd _ _
          · exact v1.wd _ _
        · rw [zA2, if_neg a6]; exact v3 a a3 a5 a8 a10
        · rw [zA2, if_pos rfl, v3 6 (by decide) (by decide) (by decide) (by decide)]
        · rw [zA2, if_neg (by decide), v4]
        · rw [zA2, if_neg (by decide), v5]
        · intro j
          rw [zA2, if_neg (by decide), v6]
        · show v.1 0 = 0
          rw [v2, yy, z0]
  · rw [if_neg c1, if_pos i00, if_pos c1]
    exact thr_m FU hx (a := 1) (b := 0) (by decide) (by decide) (fun x => if_neg n1) (fun _ => rfl) (fun q => by cases q) (fun q => by cases q)
theorem MI.told {w y : NSt} {A : AB} (h : MI w A) {tb : Nat → Nat} {L : Nat} (hL : L ≤ 2000) (s : ∀ k, k ≠ 10 → y.1 k = w.1 k) (s10 : y.1 10 = L) (ya : ∀ a, a ≠ 1 → y.2 a = w.2 a) (y1 : ∀ i, i < L → y.2 1 i = sxN (tb i) ∧ tb i < 256) (yw : ∀ i, y.2 1 i < 2 ^ 32) : MI y ((A.w_tb tb).w_ol L) := by
  refine h.io (fun k hk => s k (by omega)) (fun a ha => ya a (by omega)) (fun a i => ?_) ?_ ?_ ?_ h.cd ?_ ⟨s10, hL⟩ ?_ y1 rfl rfl rfl rfl rfl
  · by_cases c : a = 1
    · rw [c]; exact yw i
    · rw [ya a c]; exact h.po.wd a i
  · rw [s 1 (by decide), s 2 (by decide)]; exact h.dv
  · rw [s 3 (by decide), s 4 (by decide), s 5 (by decide), s 6 (by decide), s 7 (by decide)]; exact h.ms
  · rw [s 8 (by decide)]; exact h.ct
  · rw [s 9 (by decide)]; exact h.tl
  · rw [ya 0 (by decide)]; exact h.tp
theorem read_b (FU : Nat) {x : NSt} {A : AB} (h : MI x A) (hT : TFA A.T) {f at' L : Nat} (f1 : 1 ≤ f) (f2 : f ≤ 250) (hk : A.T.kd f = 1) (hL : L ≤ 2000) (hat : L = 0 ∨ at' + L ≤ 100000) (h10 : (zI x 10 L).1 10 = L) : ∀ (m j q : Nat) (y : NSt), j + m = L → m < q → y.1 = (zI x 10 L).1 → (∀ a, a ≠ 1 → y.2 a = x.2 a) → (∀ t, t < j → y.2 1 t = sxN ((A.T.fil f).byt (at' + t))) → (∀ t, y.2 1 t < 2 ^ 32) → AnsM (Mod_read_b93 FU q (nI f) (nI at') (nI j) (up y)) (x.1 0) (x.1 0, L, (A.w_tb (fun j => (A.T.fil f).byt (at' + j))).w_ol L) := by
  have hv := hT.fv f hk
  have hp := (h.f0 f f1 f2).1 hk
  intro m
  induction m with
  | zero =>
    intro j q y h1 h2 y1 ya yt yw
    obtain ⟨q, rfl⟩ : ∃ q9, q = q9 + 1 := ⟨q - 1, by omega⟩
    have h1 : j = L := h1
    subst h1
    unfold Mod_read_b93
    rw [up1, y1, h10, if_pos (nI_le (Nat.le_refl _) (by omega))]
    refine AnsM.mk (h.told hL (fun k hk => by rw [y1, zI1, if_neg hk]) (by rw [y1, h10]) ya (fun i hi => ⟨yt i hi, hv.byb _⟩) yw) (by rw [y1, zI1, if_neg (by decide)]) (fun _ => rfl)
  | succ m ih =>
    intro j q y h1 h2 y1 ya yt yw
    obtain ⟨q, rfl⟩ : ∃ q9, q = q9 + 1 := ⟨q - 1, by omega⟩
    unfold Mod_read_b93
    obtain ⟨i, ei⟩ : ∃ i, i = at' + j := ⟨_, rfl⟩
    have hi : i < 100000 := by omega
    have hpc := pcN_lt (l := 0) (by decide) f2 (show i / 256 < 391 by omega)
    have hpr := h.po.pr _ hpc
    obtain ⟨b1, b2⟩ := hp.by' i (by omega)
    have go : ∀ v, v = sxN ((A.T.fil f).byt i) → AnsM (Mod_read_b93 FU q (nI f) (nI at') (nI (j + 1)) (up (zA y 1 j v))) (x.1 0) (x.1 0, L, (A.w_tb (fun j => (A.T.fil f).byt (at' + j))).w_ol L) := fun v hv' => by
      refine ih (j + 1) q _ (by omega) (by omega) y1 (fun a ha => by rw [zA2, if_neg ha]; exact ya a ha) (fun t ht => ?_) (fun t => ?_)
      · rw [zA2, if_pos rfl]
        by_cases c : t = j
        · rw [c, va_up_self, hv', ei]
        · rw [va_up_ne _ _ c]; exact yt t (by omega)
      · rw [zA2, if_pos rfl]
        unfold va_up
        split
        · rw [hv']; exact sxN_lt (hv.byb _)
        · exact yw t
    rw [up1, y1, h10, if_neg (nI_ge (by omega) (by omega)), nI_add, ← ei, show (256 : Int32) = nI 256 from rfl, pk_div (by omega) (by decide) (by decide), show (0 : Int32) = nI 0 from rfl, at_z, Option.bind_some, rdA_z y 8 hpc (by decide), Option.bind_some, ya 8 (by decide)]
    unfold Mod_read_b157
    by_cases d : x.2 8 (pcN 0 f (i / 256)) = neg1
    · rw [if_neg (show ¬ nI 0 ≤ nI (x.2 8 (pcN 0 f (i / 256))) by rw [d]; decide), show nby (nI 0) = nI 0 by decide, wrA_z y 1 (by omega) (by decide), Option.bind_some, nI_1]
      exact go 0 (by rw [b1 d]; rfl)
    · have hx6 : x.2 8 (pcN 0 f (i / 256)) < 6600 := by
        rcases hpr with q | q
        · exact absurd q d
        · exact q
      have eb := b2 d
      rw [if_pos (nI_le (Nat.zero_le _) (by omega)), pk_mul, pk_mul, pk_sub (by omega), nI_add, show i - i / 256 * 256 = i % 256 by omega, rdA_z y 9 (by omega) (by decide), Option.bind_some, ya 9 (by decide), eb, nby_s (hv.byb _), wrA_z y 1 (by omega) (by decide), Option.bind_some, nI_1]
      exact go _ rfl
theorem mo_read {FU : Nat} (hF : 140000 < FU) {w : NSt} {A : AB} (h : MH w A) {f at' n : Nat} (hf : f < 2 ^ 32) (ha : at' < 2 ^ 32) (hn : n < 2 ^ 32) : AnsM (Mod_read FU (nI f) (nI at') (nI n) (up w)) (readA f at' n A).1 (readA f at' n A) := by
  unfold Mod_read readA
  refine off_m FU h.mi (fun x => if_neg n1) (fun hd hx x0 => ?_)
  obtain ⟨x, ex⟩ : ∃ x, x = thw w 0 := ⟨_, rfl⟩
  rw [← ex] at hx x0 ⊢
  have hA := h.tt hd
  have hT := hA.t
  have bad : ¬ (A.T.kd f = 1 ∧ 1 ≤ n ∧ n ≤ 2000 ∧ at' < 2 ^ 31) → ∀ r : ANS, AnsM (Mod_read_b34 FU (nI f) (nI at') (nI n) (up x)) (if ¬ (A.T.kd f = 1 ∧ 1 ≤ n ∧ n ≤ 2000 ∧ at' < 2 ^ 31) then (1, 0, A) else r).1 (if ¬ (A.T.kd f = 1 ∧ 1 ≤ n ∧ n ≤ 2000 ∧ at' < 2 ^ 31) then (1, 0, A) else r) := fun q r => by
    rw [if_pos q]
    unfold Mod_read_b34 Mod_read_b39
    exact thr_m FU hx (a := 1) (b := 0) (by decide) (by decide) (fun x => if_neg n1) (fun _ => rfl) (fun q => by cases q) (fun q => by cases q)
  rw [if_pos i00, show (1 : Int32) = nI 1 from rfl, is_z FU hx hT hf (by decide), Option.bind_some]
  by_cases c1 : A.T.kd f = 1
  · obtain ⟨f1, f2, -⟩ := hT.rng f (by omega)
    have hv := hT.fv f c1
    rw [if_pos c1, if_neg n1, show (2000 : Int32) = nI 2000 from rfl, in_z FU _ hn (by decide) (by decide), Option.bind_some]
    by_cases c2 : 1 ≤ n ∧ n ≤ 2000
    · rw [if_pos c2, if_neg n1]
      by_cases c4 : at' < 2 ^ 31
      · rw [if_pos (show (0 : Int32) ≤ nI at' from nI_le (Nat.zero_le _) c4), if_neg (show ¬ ¬ (A.T.kd f = 1 ∧ 1 ≤ n ∧ n ≤ 2000 ∧ at' < 2 ^ 31) from fun q => q ⟨c1, c2.1, c2.2, c4⟩)]
        unfold Mod_read_b39
        refine thr_m FU hx (a := 0) (b := 0) (by decide) (by decide) (fun x => if_neg n1) (fun q => by cases q) (fun _ q => by cases q) (fun _ _ hy y0 => ?_)
        obtain ⟨y, ey⟩ : ∃ y, y = thw x 0 := ⟨_, rfl⟩
        rw [← ey] at hy y0 ⊢
        have hp := (hy.f0 f f1 f2).1 c1
        have hszb := hv.szb
        have e3 : y.2 3 f = (A.T.fil f).sz := by
          have := hp.sz
          rw [show 251 * 0 + f = f by omega] at this
          exact this
        have fin : ∀ L, L = readL (A.T.fil f) at' n → L ≤ 2000 → (L = 0 ∨ at' + L ≤ 100000) → AnsM (Mod_read_b87 FU (nI f) (nI at') (nI L) (up y)) 0 (0, readL (A.T.fil f) at' n, (A.w_tb (fun j => (A.T.fil f).byt (at' + j))).w_ol (readL (A.T.fil f) at' n)) := fun L eL hL hat => by
          rw [← eL]
          unfold Mod_read_b87
          rw [nx_eq, up_I]
          have := read_b FU hy hT f1 f2 c1 hL hat (by rw [zI1, if_pos rfl]) L 0 FU (zI y 10 L) (by omega) (by omega) rfl (fun _ _ => rfl) (fun t ht => by omega) (fun t => hy.po.wd 1 t)
          rw [y0] at this
          exact this
        rw [if_pos i00, rdA_z y 3 (by omega) (by decide), Option.bind_some, e3]
        by_cases d : at' < (A.T.fil f).sz
        · rw [if_pos (nI_lt d (by omega)), Option.bind_some, pk_sub (by omega)]
          by_cases e : (A.T.fil f).sz - at' ≤ n
          · rw [if_pos (nI_le e (by omega)), Option.bind_some, pk_sub (by omega)]
            refine fin ((A.T.fil f).sz - at') ?_ (by omega) (by omega)
            unfold readL
            rw [if_pos d]
            split <;> omega
          · rw [if_neg (nI_ge (by omega) (by omega))]
            refine fin _ ?_ (by omega) (by omega)
            unfold readL
            rw [if_pos d, if_neg (by omega)]
        · rw [if_neg (nI_nlt (by omega) (by omega))]
          refine fin 0 ?_ (by omega) (Or.inl rfl)
          unfold readL
          rw [if_neg d]
      · have q : ¬ (0 : Int32) ≤ nI at' := fun v => by
          have : nI at' < nI 0 := (sLt ha (by decide)).mpr (Or.inr (by omega))
          exact Int32.lt_irrefl (Int32.lt_of_le_of_lt v this)
        rw [if_neg q]
        exact bad (fun q => c4 q.2.2.2) _
    · rw [if_neg c2, if_pos i00]
      exact bad (fun q => c2 ⟨q.2.1, q.2.2.1⟩) _
  · rw [if_neg c1, if_pos i00]
    exact bad (fun q => c1 q.1) _
