/-! the inspector: nodes, segments, the whole -/
def CL (z : NSt) (n b : Nat) : Prop := ∃ m, m < n ∧ z.2 6 m ≠ 0 ∧ (b = z.2 6 m ∨ ∃ j, RR (zV z) (z.2 6) m j = b ∧ b ≠ 0)
/-- how often a node leads to t -/
def LN (z : NSt) (n t : Nat) : Nat := if z.2 6 n = 0 then 0 else if zV z (z.2 6 n) 58 = 2 then sm (fun j => if zV z (z.2 6 n) j = t then 1 else 0) 56 else if zV z (z.2 6 n) 58 = 0 then (if zV z (z.2 6 n) 0 = 2 then sm (fun j => if ldD z (z.2 6 n) j = t then 1 else 0) 48 else sm (fun j => if zV z (z.2 6 n) (26 + j) = t then 1 else 0) 3) else 0
def LT (z : NSt) (n t : Nat) : Nat := sm (fun m => LN z m t) n
theorem LN_le (z : NSt) (n t : Nat) : LN z n t ≤ 56 := by
  unfold LN
  have h1 := sm1b (p := fun j => zV z (z.2 6 n) j = t) 56
  have h2 := sm1b (p := fun j => ldD z (z.2 6 n) j = t) 48
  have h3 := sm1b (p := fun j => zV z (z.2 6 n) (26 + j) = t) 3
  repeat' split
  all_goals omega
theorem LT_le (z : NSt) {n : Nat} (hn : n ≤ 2048) (t : Nat) : LT z n t ≤ 150000 := by
  have := sm_bnd (f := fun m => LN z m t) (n := n) (c := 56) (fun m _ => LN_le z m t)
  unfold LT
  omega
theorem ptr_ok {z : NSt} {T R : TRE} {tk : TKS} {PP : Nat → Nat} {ch : List Nat} (h : NW z T R tk PP ch) {n i : Nat} (hn : z.2 6 n ≠ 0) (h1 : pFr (zV z (z.2 6 n) 58) ≤ i) (h2 : i < pFr (zV z (z.2 6 n) 58) + pNo (zV z (z.2 6 n) 58) (zV z (z.2 6 n) 0)) : RR (zV z) (z.2 6) n i = zV z (z.2 6 n) i % 4096 ∧ (zV z (z.2 6 n) i ≠ 0 → RR (zV z) (z.2 6) n i ≠ 0) := by
  have e : RR (zV z) (z.2 6) n i = zV z (z.2 6 n) i % 4096 := by
    unfold RR ptw
    rw [if_neg hn, if_pos ⟨h1, h2⟩]
  refine ⟨e, fun q => ?_⟩
  obtain ⟨id, base, fr, hi, hc, f1, f2, -⟩ := crd_ex h hn
  obtain ⟨i1, i2, ik, c1, c2, c3, c61, cc⟩ := hc
  rw [← f1] at h1 h2
  rw [← f2] at h2
  have hb := c3 i h1 h2
  rw [e, ← hb]
  rcases cc with ⟨rfl, v1, v2, v3, -⟩ | ⟨v0, v1, v2, ⟨v3, j, v4, v5, v6, v7, -⟩ | ⟨v3, -⟩⟩
  · have hi' := h.tok.ids n i1 i2
    rcases v3 with ⟨k2, v3⟩ | ⟨k1, v3⟩
    · have := ((hi'.dir k2).1.slot (i - 6) (by omega) (by rw [show 6 + (i - 6) = i by omega]; exact q)).1
      rw [show 6 + (i - 6) = i by omega] at this
      rw [hb]; exact this
    · have eb := BPL_f (W := zV z) (P := z.2 6) (k := base + (i - fr)) hn i2 (by rw [(hi'.kd (by omega)).1, k1]; decide) (by omega)
      have e1 : bpF (zV z) (z.2 6) n (base + (i - fr)) = zV z (z.2 6 n) i := by
        unfold bpF
        rw [if_pos (by omega), show 6 + (base + (i - fr)) = i by omega]
      rw [eb, e1]; exact q
  · have eb := BPL_nd h v1 (j := j) (i := i) (by omega) v5 (by omega)
    rw [v6, if_neg (by omega)] at eb
    rw [v7, v2, Nat.sub_zero, eb]; exact q
  · omega
theorem RR_in {z : NSt} {T R : TRE} {tk : TKS} {PP : Nat → Nat} {ch : List Nat} (h : NW z T R tk PP ch) {n i : Nat} (hr : RR (zV z) (z.2 6) n i ≠ 0) : 69 ≤ RR (zV z) (z.2 6) n i ∧ RR (zV z) (z.2 6) n i < 2117 ∧ z.2 9 (RR (zV z) (z.2 6) n i) = 2 ∧ z.2 5 (RR (zV z) (z.2 6) n i) = 1 := by
  have hn : z.2 6 n ≠ 0 := fun v => by
    unfold RR at hr
    rw [if_pos v] at hr
    exact hr rfl
  obtain ⟨id, base, fr, hi, hc, f1, f2, -⟩ := crd_ex h hn
  have hR := RR_crd hn hc f1 f2 i
  by_cases c : fr ≤ i ∧ i < hi
  · rw [if_pos c] at hR
    rw [hR] at hr ⊢
    have := h.wk.tr.rb h.wk.lg hr
    exact ⟨this.1, this.2.2.1, this.2.2.2.1, this.2.2.2.2⟩
  · rw [if_neg c] at hR
    exact absurd hR hr
theorem inspPtr_b {FU : Nat} {z : NSt} {T R : TRE} {tk : TKS} {PP : Nat → Nat} {ch : List Nat} (hN : NW z T R tk PP ch) {f : Nat → Nat} {n lv ow hi : Nat} (hn : z.2 6 n ≠ 0) (hlv : lv = zV z (z.2 6 n) 58) (hhi : hi = pFr lv + pNo lv (zV z (z.2 6 n) 0)) (hh : hi ≤ 56) (Q : St → Prop) (hq : ∀ y, IV y z (fun b => CL z n b ∨ b = z.2 6 n ∨ ∃ j, j < hi ∧ RR (zV z) (z.2 6) n j = b ∧ b ≠ 0) f → Ev (if nI lv = (2 : Int32) then (Ins_inspectIndirect FU (nI (z.2 6 n)) (nI ow) (up y)).bind fun p4 => some p4 else (if nI lv = 0 then (Dev_word FU (nI (z.2 6 n)) (0 : Int32) (up y)).bind fun v2 => (if v2 = (2 : Int32) then (Ins_inspectDirectory FU (nI n) (nI (z.2 6 n)) (up y)).bind fun p3 => some p3 else Ins_inspectNode_b214 FU (nI n) (nI (z.2 6 n)) (nI lv) (up y)) else Ins_inspectNode_b214 FU (nI n) (nI (z.2 6 n)) (nI lv) (up y))) Q) : ∀ (m i q : Nat) (y : NSt), i + m = hi → pFr lv ≤ i → m < q → IV y z (fun b => CL z n b ∨ b = z.2 6 n ∨ ∃ j, j < i ∧ RR (zV z) (z.2 6) n j = b ∧ b ≠ 0) f →
    Ev (Ins_inspectNode_b128 FU q (nI n) (nI (z.2 6 n)) (nI lv) (nI ow) (nI hi) (nI i) (up y)) Q := by
  have hp := hN.wk.pb n
  intro m
  induction m with
  | zero =>
    intro i q y h1 h3 h2 h
    obtain ⟨q, rfl⟩ : ∃ q9, q = q9 + 1 := ⟨q - 1, by omega⟩
    have h1 : i = hi := h1
    subst h1
    unfold Ins_inspectNode_b128
    rw [if_pos (nI_le (Nat.le_refl _) (by omega))]
    exact hq y h
  | succ m ih =>
    intro i q y h1 h3 h2 h
    obtain ⟨q, rfl⟩ : ∃ q9, q = q9 + 1 := ⟨q - 1, by omega⟩
    unfold Ins_inspectNode_b128 Ins_inspectNode_b167
    have w32 := zV32 hN (z.2 6 n) i
    obtain ⟨p1, p2⟩ := ptr_ok hN hn (i := i) (by rw [← hlv]; exact h3) (by rw [← hlv, ← hhi]; omega)
    rw [if_neg (nI_ge (by omega) (by omega)), h.is.word FU hp (by omega), Option.bind_some]
    by_cases c : zV z (z.2 6 n) i = 0
    · rw [if_pos (show nI (zV z (z.2 6 n) i) = (0 : Int32) by rw [c]; rfl), nI_1]
      refine ih (i + 1) q y (by omega) (by omega) (by omega) (h.wk (fun b _ => ?_) (fun _ _ _ => rfl))
      constructor
      · rintro (w | w | ⟨j, w1, w2, w3⟩)
        · exact Or.inl w
        · exact Or.inr (Or.inl w)
        · by_cases d : j = i
          · rw [d, p1, c] at w2
            omega
          · exact Or.inr (Or.inr ⟨j, by omega, w2, w3⟩)
      · rintro (w | w | ⟨j, w1, w2, w3⟩)
        · exact Or.inl w
        · exact Or.inr (Or.inl w)
        · exact Or.inr (Or.inr ⟨j, by omega, w2, w3⟩)
    · have hr := p2 c
      obtain ⟨r1, r2, r3, r4⟩ := RR_in hN hr
      rw [if_neg (ne0_I w32 c), Option.bind_some, and4095 w32, ← p1, show (2 : Int32) = nI 2 from rfl]
      refine (own_s FU h r1 r2 r4 r3 (by decide) (fun w => ?_)).bd ?_
      · rcases w with ⟨m', m1, m2, m3 | ⟨j, m3, m4⟩⟩ | w | ⟨j, w1, w2, w3⟩
        · have := (hN.wk.p1 m2).1
          have u1 := (hN.wk.tr.2.1 (z.2 6 m')).mpr ⟨m2, m', rfl⟩
          rw [m3, u1] at r3
          omega
        · have := RR_inj hN hr m3.symm
          omega
        · have u1 := (hN.wk.tr.2.1 (z.2 6 n)).mpr ⟨hn, n, rfl⟩
          rw [w, u1] at r3
          omega
        · have := RR_inj hN hr w2.symm
          omega
      · rintro _ ⟨w, rfl, hw⟩
        rw [nI_1]
        refine ih (i + 1) q w (by omega) (by omega) (by omega) (hw.wk (fun b _ => ?_) (fun _ _ _ => rfl))
        constructor
        · rintro (v | v | ⟨j, w1, w2, w3⟩)
          · exact Or.inl (Or.inl v)
          · exact Or.inl (Or.inr (Or.inl v))
          · by_cases d : j = i
            · rw [d] at w2
              exact Or.inr w2.symm
            · exact Or.inl (Or.inr (Or.inr ⟨j, by omega, w2, w3⟩))
        · rintro ((v | v | ⟨j, w1, w2, w3⟩) | v)
          · exact Or.inl v
          · exact Or.inr (Or.inl v)
          · exact Or.inr (Or.inr ⟨j, by omega, w2, w3⟩)
          · exact Or.inr (Or.inr ⟨i, by omega, v.symm, by rw [v]; exact hr⟩)
theorem pn_le (z : NSt) {T R : TRE} {tk : TKS} {PP : Nat → Nat} {ch : List Nat} (hN : NW z T R tk PP ch) {n : Nat} (hn : z.2 6 n ≠ 0) : pFr (zV z (z.2 6 n) 58) + pNo (zV z (z.2 6 n) 58) (zV z (z.2 6 n) 0) ≤ 56 := by
  obtain ⟨id, base, fr, hi, hc, f1, f2, -⟩ := crd_ex hN hn
  rw [← f1, ← f2]
  exact hc.2.2.2.2.1
theorem inspNode_s {FU : Nat} (hF : 140000 < FU) {y z : NSt} {T R : TRE} {tk : TKS} {PP : Nat → Nat} {ch : List Nat} (hN : NW z T R tk PP ch) (hT : TWF T) {n : Nat} (hn : z.2 6 n ≠ 0) (h : IV y z (CL z n) (LT z n)) :
    Ev (Ins_inspectNode FU (nI n) (nI (z.2 6 n)) (up y)) fun r => ∃ w, r = up w ∧ IV w z (CL z (n + 1)) (LT z (n + 1)) := by
  obtain ⟨n1, n2, n3⟩ := hN.wk.nu n hn
  have hp := hN.wk.pb n
  rcases hN.wk.tr.pb hN.wk.lg n with q | ⟨b1, b2, b3, b4, b5⟩
  · exact absurd q hn
  obtain ⟨id, base, fr, hi, hc, f1, f2, f3, -⟩ := crd_ex hN hn
  obtain ⟨i1, i2, ik, c1, c2, c3, c61, cc⟩ := hc
  have w58 := zV32 hN (z.2 6 n) 58
  have hpn := pn_le z hN hn
  unfold Ins_inspectNode
  rw [show (58 : Int32) = nI 58 from rfl, h.is.word FU hp (by decide), Option.bind_some, show (61 : Int32) = nI 61 from rfl, h.is.word FU hp (by decide), Option.bind_some, show (1 : Int32) = nI 1 from rfl]
  refine (own_s FU h b1 b3 b5 b4 (by decide) (fun w => ?_)).bd ?_
  · obtain ⟨m', m1, m2, m3 | ⟨j, m3, m4⟩⟩ := w
    · have := hN.wk.tr.1 n m' m3 hn
      omega
    · have := (RR_in hN (n := m') (i := j) (by rw [m3]; exact m4)).2.2.1
      rw [m3, b4] at this
      omega
  rintro _ ⟨x, rfl, hx⟩
  have hx : IV x z (fun b => CL z n b ∨ b = z.2 6 n ∨ ∃ j, j < fr ∧ RR (zV z) (z.2 6) n j = b ∧ b ≠ 0) (LT z n) := hx.wk (fun b _ => ⟨fun w => by
    rcases w with w | w | ⟨j, w1, w2, w3⟩
    · exact Or.inl w
    · exact Or.inr w
    · exfalso
      have e : RR (zV z) (z.2 6) n j = 0 := by
        unfold RR ptw
        rw [if_neg hn, if_neg (by rw [← f1]; omega)]
      omega, fun w => by
    rcases w with w | w
    · exact Or.inl w
    · exact Or.inr (Or.inl w)⟩) (fun _ _ _ => rfl)
  rw [show (60 : Int32) = nI 60 from rfl, hx.is.word FU hp (by decide), Option.bind_some, n3, if_pos rfl]
  unfold Ins_inspectNode_b49
  have cl_end : ∀ w, IV w z (fun b => CL z n b ∨ b = z.2 6 n ∨ ∃ j, j < hi ∧ RR (zV z) (z.2 6) n j = b ∧ b ≠ 0) (LT z (n + 1)) → IV w z (CL z (n + 1)) (LT z (n + 1)) := fun w hw => hw.wk (fun b _ => ⟨fun v => by
    obtain ⟨m', m1, m2, m3⟩ := v
    by_cases d : m' = n
    · rw [d] at m3
      rcases m3 with m3 | ⟨j, m3, m4⟩
      · exact Or.inr (Or.inl m3)
      · refine Or.inr (Or.inr ⟨j, ?_, m3, m4⟩)
        refine Classical.byContradiction (fun u => ?_)
        have e : RR (zV z) (z.2 6) n j = 0 := by
          unfold RR ptw
          rw [if_neg hn, if_neg (by rw [← f1, ← f2]; omega)]
        omega
    · exact Or.inl ⟨m', by omega, m2, m3⟩, fun v => by
    rcases v with ⟨m', m1, m2, m3⟩ | v | ⟨j, v1, v2, v3⟩
    · exact ⟨m', by omega, m2, m3⟩
    · exact ⟨n, by omega, hn, Or.inl v⟩
    · exact ⟨n, by omega, hn, Or.inr ⟨j, v2, v3⟩⟩⟩) (fun _ _ _ => rfl)
  have hlt := LT_le z (n := n) (by omega)
  have eLT : ∀ t, LT z (n + 1) t = LT z n t + LN z n t := fun t => rfl
  have b97 : Ev (Ins_inspectNode_b97 FU (nI n) (nI (z.2 6 n)) (nI (zV z (z.2 6 n) 58)) (nI (zV z (z.2 6 n) 61)) (nI 1) (up x)) fun r => ∃ w, r = up w ∧ IV w z (CL z (n + 1)) (LT z (n + 1)) := by
    unfold Ins_inspectNode_b97
    have ef : FF_pointersFrom FU (nI (zV z (z.2 6 n) 58)) (up x) = some (nI fr) := by
      unfold FF_pointersFrom
      rw [f1]
      unfold pFr
      by_cases c : zV z (z.2 6 n) 58 = 0
      · rw [if_pos c, c, if_pos i00]; rfl
      · rw [if_neg c, if_neg (ne0_I w58 c)]; rfl
    have w0 := zV32 hN (z.2 6 n) 0
    have en : FF_pointersIn FU (nI (zV z (z.2 6 n) 58)) (nI (zV z (z.2 6 n) 0)) (up x) = some (nI (pNo (zV z (z.2 6 n) 58) (zV z (z.2 6 n) 0))) := by
      unfold FF_pointersIn pNo
      by_cases c : zV z (z.2 6 n) 58 = 0
      · rw [if_pos c, c, if_pos i00]
        by_cases d : zV z (z.2 6 n) 0 = 2
        · rw [if_pos d, d, if_pos (show nI 2 = (2 : Int32) from rfl)]; rfl
        · rw [if_neg d, if_neg (fun v : nI (zV z (z.2 6 n) 0) = (2 : Int32) => d ((eqN w0 (c := 2) (by decide)).mp v))]; rfl
      · rw [if_neg c, if_neg (ne0_I w58 c)]
        by_cases d : zV z (z.2 6 n) 58 = 1
        · rw [if_pos d, d, if_pos i11]; rfl
        · rw [if_neg d, if_neg (fun v : nI (zV z (z.2 6 n) 58) = (1 : Int32) => d ((eqN w58 (c := 1) (by decide)).mp v))]; rfl
    rw [show nI 1 = (1 : Int32) from rfl, exp1, Option.bind_some, ef, Option.bind_some, show (0 : Int32) = nI 0 from rfl, hx.is.word FU hp (by decide), Option.bind_some, en, Option.bind_some, nI_add]
    rw [← f2]
    refine inspPtr_b (FU := FU) hN hn (lv := zV z (z.2 6 n) 58) (ow := zV z (z.2 6 n) 61) rfl (by rw [← f1]; exact f2) c2 _ (fun u hu => ?_) (hi - fr) fr FU x (by omega) (by rw [← f1]; exact Nat.le_refl _) (by omega) hx
    rw [c61]
    rcases cc with ⟨v0, v1, v2, v3, v4⟩ | ⟨v0, v1, v2, ⟨v3, j, v4, v5, v6, v7, v8⟩ | ⟨v3, v4, v5, v6⟩⟩
    · subst v0
      have hi' := hN.tok.ids n i1 i2
      have k0 := (hi'.kd ik).1
      rw [v4, if_neg (show ¬ nI 0 = (2 : Int32) by decide), if_pos i00, show (0 : Int32) = nI 0 from rfl, hu.is.word FU hp (by decide), Option.bind_some, k0]
      rcases v3 with ⟨k2, -⟩ | ⟨k1, -⟩
      · rw [if_pos (show nI (T.kd n) = (2 : Int32) by rw [k2]; rfl)]
        unfold Ins_inspectDirectory
        refine (indir_d hF hN hT k2 hlt 48 0 FU u (by omega) (by omega) (hu.wk (fun _ _ => Iff.rfl) (fun _ _ _ => rfl))).bd ?_
        rintro _ ⟨w, rfl, hw⟩
        refine Ev.ret ⟨w, rfl, cl_end w (hw.wk (fun _ _ => Iff.rfl) (fun t _ _ => ?_))⟩
        rw [eLT]
        unfold LN
        rw [if_neg hn, if_neg (by rw [v4]; decide), if_pos v4, if_pos (by rw [k0, k2])]
      · rw [if_neg (show ¬ nI (T.kd n) = (2 : Int32) by rw [k1]; decide)]
        unfold Ins_inspectNode_b214 Ins_inspectFile
        rw [if_pos i00]
        refine (inspF_b hF hN k1 hlt 3 0 FU u (by omega) (by omega) (hu.wk (fun _ _ => Iff.rfl) (fun _ _ _ => rfl))).bd ?_
        rintro _ ⟨w, rfl, hw⟩
        refine Ev.ret ⟨w, rfl, cl_end w (hw.wk (fun _ _ => Iff.rfl) (fun t _ _ => ?_))⟩
        rw [eLT]
        unfold LN
        rw [if_neg hn, if_neg (by rw [v4]; decide), if_pos v4, if_neg (by rw [k0, k1]; decide)]
    · unfold Ins_inspectNode_b214
      rw [v8, if_neg (show ¬ nI 1 = (2 : Int32) by decide), if_neg (show ¬ nI 1 = (0 : Int32) by decide)]
      refine Ev.ret ⟨u, rfl, cl_end u (hu.wk (fun _ _ => Iff.rfl) (fun t _ _ => ?_))⟩
      rw [eLT]
      unfold LN
      rw [if_neg hn, if_neg (by rw [v8]; decide), if_neg (by rw [v8]; decide)]
      rfl
    · rw [v6, if_pos (show nI 2 = (2 : Int32) from rfl)]
      unfold Ins_inspectIndirect
      have hno := ((hN.tok.ids id i1 i2).fil v1).2.2
      have hz5 := hno.ixz (by rw [v5]; omega)
      rw [v5] at hz5
      have h28 : zV z (z.2 6 id) 28 = n := by rw [← v5]; rfl
      refine (indir_b FU hN hp hlt (id := id) (fun j hj => ?_) 56 0 FU u (by omega) (by omega) (hu.wk (fun _ _ => Iff.rfl) (fun _ _ _ => rfl))).bd ?_
      · by_cases c5 : j < 5
        · have e : NB (zV z) (z.2 6) id (3 + j) = zV z (z.2 6 n) j := by
            unfold NB
            rw [if_neg (by omega), if_neg (by omega), h28, if_neg (by omega), show 3 + j - 3 = j by omega]
          by_cases w : zV z (z.2 6 n) j = 0
          · exact Or.inl w
          · have := hno.rng (3 + j) (by omega) (by rw [e]; exact w)
            rw [e] at this
            exact Or.inr ⟨by omega, this.2.1, this.2.2.1, this.2.2.2.1⟩
        · exact Or.inl (hz5.1 j (by omega) hj)
      · rintro _ ⟨w, rfl, hw⟩
        refine Ev.ret ⟨w, rfl, cl_end w (hw.wk (fun _ _ => Iff.rfl) (fun t _ _ => ?_))⟩
        rw [eLT]
        unfold LN
        rw [if_neg hn, if_pos v6]
  rw [show nI 1 = (1 : Int32) from rfl, exp1, Option.bind_some]
  rcases cc with ⟨v0, v1, v2, v3, v4⟩ | ⟨v0, v1, -⟩
  · rw [if_pos (show nI (zV z (z.2 6 n) 58) = (0 : Int32) by rw [v4]; rfl), if_pos (by rw [c61, v0])]
    exact b97
  · have l0 : zV z (z.2 6 n) 58 ≠ 0 := by
      rcases hN.led n (by omega) hn with ⟨id', j', e1, e2, e3⟩
      obtain ⟨q1, q2, q3⟩ := hN.tok.rng id' (by omega)
      have := ((hN.tok.ids id' q1 q2).fil e1).2.2.rng j' e2 (by omega)
      rw [e3] at this
      rw [this.2.2.2.2]
      split <;> decide
    rw [if_neg (ne0_I w58 l0), c61, if_neg (show ¬ nI id < (1 : Int32) from fun w => by
      rw [show (1 : Int32) = nI 1 from rfl, nI_ltI (by omega) (by decide)] at w
      omega), if_neg (show ¬ (250 : Int32) < nI id from fun w => by
      rw [show (250 : Int32) = nI 250 from rfl, nI_ltI (by decide) (by omega)] at w
      omega), if_neg (show ¬ nI n ≤ (250 : Int32) from fun w => by
      rw [show (250 : Int32) = nI 250 from rfl, nI_leI (by omega) (by decide)] at w
      omega)]
    rw [c61] at b97
    exact b97
