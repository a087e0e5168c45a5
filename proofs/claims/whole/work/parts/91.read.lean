/-! bytes are read -/
def RDS (z z0 : NSt) (f : Nat) : Prop := (∀ a, a ≠ 1 → a ≤ 12 ∨ 17 ≤ a → z.2 a = z0.2 a) ∧ (∀ k, k ≠ 1 → k ≤ 11 ∨ 16 ≤ k → z.1 k = z0.1 k) ∧ (z.1 14 = 0) ∧ (z.1 13 ≤ 7) ∧ (∀ i, i < 64 → z.2 13 i = zV z0 (z0.2 6 f) i) ∧ (∀ j, j ≤ 7 → nuI z j = NB (zV z0) (z0.2 6) f j) ∧ (1 ≤ z.1 13 → ∀ i, i < 56 → bpF (zV z0) (z0.2 6) f (20 + 56 * (z.1 13 - 1) + i) = z.2 15 i) ∧ (∀ a, 13 ≤ a → a ≤ 16 → ∀ i, z.2 a i < 2 ^ 32)
theorem RDS.ar {z z0 : NSt} {f : Nat} (h9 : RDS z z0 f) : ∀ a, a ≠ 1 → a ≤ 12 ∨ 17 ≤ a → z.2 a = z0.2 a := h9.1
theorem RDS.sc {z z0 : NSt} {f : Nat} (h9 : RDS z z0 f) : ∀ k, k ≠ 1 → k ≤ 11 ∨ 16 ≤ k → z.1 k = z0.1 k := h9.2.1
theorem RDS.dc {z z0 : NSt} {f : Nat} (h9 : RDS z z0 f) : z.1 14 = 0 := h9.2.2.1
theorem RDS.op {z z0 : NSt} {f : Nat} (h9 : RDS z z0 f) : z.1 13 ≤ 7 := h9.2.2.2.1
theorem RDS.i13 {z z0 : NSt} {f : Nat} (h9 : RDS z z0 f) : ∀ i, i < 64 → z.2 13 i = zV z0 (z0.2 6 f) i := h9.2.2.2.2.1
theorem RDS.nu {z z0 : NSt} {f : Nat} (h9 : RDS z z0 f) : ∀ j, j ≤ 7 → nuI z j = NB (zV z0) (z0.2 6) f j := h9.2.2.2.2.2.1
theorem RDS.bo {z z0 : NSt} {f : Nat} (h9 : RDS z z0 f) : 1 ≤ z.1 13 → ∀ i, i < 56 → bpF (zV z0) (z0.2 6) f (20 + 56 * (z.1 13 - 1) + i) = z.2 15 i := h9.2.2.2.2.2.2.1
theorem RDS.wd {z z0 : NSt} {f : Nat} (h9 : RDS z z0 f) : ∀ a, 13 ≤ a → a ≤ 16 → ∀ i, z.2 a i < 2 ^ 32 := h9.2.2.2.2.2.2.2
theorem RDS.V {z z0 : NSt} {f : Nat} (h : RDS z z0 f) (b : Nat) : zV z b = zV z0 b := zV_congr (h.ar 4 (by decide) (by omega)) b
theorem turnTo_r {FU : Nat} (hF : 140000 < FU) {z z0 : NSt} {T R : TRE} {tk : TKS} {PP : Nat → Nat} {ch : List Nat} {f : Nat} (h0 : NW z0 T R tk PP ch) (hk : T.kd f = 1) (h : RDS z z0 f) {k : Nat} (hk4 : k < 412) :
    Ev (Fil_turnTo FU (nI k) (up z)) fun r => ∃ y, r = up y ∧ RDS y z0 f ∧ (20 ≤ k → y.1 13 = ndK k) ∧ y.2 1 = z.2 1 ∧ y.1 1 = z.1 1 := by
  obtain ⟨g1, g2, g3⟩ := h0.tok.rng f (by omega)
  have hno := ((h0.tok.ids f g1 g2).fil hk).2.2
  have key : ∀ nd, nd = ndK k → nd ≤ 7 → Ev (Fil_turnTo_b19 FU (nI nd) (up z)) fun r => ∃ y, r = up y ∧ RDS y z0 f ∧ (20 ≤ k → y.1 13 = ndK k) ∧ y.2 1 = z.2 1 ∧ y.1 1 = z.1 1 := by
    intro nd end' hnd
    have hop := h.op
    unfold Fil_turnTo_b19
    by_cases c0 : nd = 0
    · rw [c0, if_pos i00]
      refine Ev.ret ⟨z, rfl, h, fun q => ?_, rfl, rfl⟩
      rw [c0, ndK_hi q] at end'
      omega
    · rw [if_neg (ne0_I (by omega) c0), up1]
      by_cases c1 : nd = z.1 13
      · rw [if_pos (by rw [c1])]
        exact Ev.ret ⟨z, rfl, h, fun _ => by rw [← c1, end'], rfl, rfl⟩
      · rw [if_neg (fun q => c1 ((nI_eq (by omega) (by omega)).mp q))]
        unfold Fil_closeNode
        rw [up1, h.dc, if_pos i00, Option.bind_some, nx_eq, up_I]
        obtain ⟨x, ex⟩ : ∃ x, x = zI z 13 nd := ⟨_, rfl⟩
        have e2 : x.2 = z.2 := by rw [ex]; rfl
        have e1 : ∀ k, k ≠ 13 → x.1 k = z.1 k := fun k q => by rw [ex, zI1, if_neg q]
        have enu : ∀ j, nuI x j = nuI z j := fun j => by unfold nuI; rw [e2]
        rw [← ex, numberOf_z FU x (by omega) hnd, Option.bind_some, enu, h.nu nd hnd]
        obtain ⟨n, en⟩ : ∃ n, n = NB (zV z0) (z0.2 6) f nd := ⟨_, rfl⟩
        have hnr : n ≠ 0 → 1 ≤ n ∧ n < 2048 := fun q => by
          rw [en] at q ⊢
          have := hno.rng nd hnd q
          omega
        have hn31 : n < 2 ^ 31 := by
          by_cases q : n = 0
          · omega
          · have := hnr q; omega
        have x6 : x.2 6 = z0.2 6 := by rw [e2]; exact h.ar 6 (by decide) (by omega)
        rw [← en, loadNode_z hF (fun m => by rw [x6]; exact h0.wk.pb m) rfl hn31 hnr, Option.bind_some]
        obtain ⟨y, ey⟩ : ∃ y, y = (if n = 0 then zR x 15 (flN (x.2 15) 0 64 0) else ldZ x 15 (x.2 6 n)) := ⟨_, rfl⟩
        have hVx : ∀ b, zV x b = zV z0 b := fun b => zV_congr (by rw [e2]; exact h.ar 4 (by decide) (by omega)) b
        have m15 : ∀ i, i < 64 → y.2 15 i = if n = 0 then 0 else zV z0 (z0.2 6 n) i := fun i hi => by
          rw [ey, load_a hi, x6, hVx]
        have ya : ∀ c, c ≠ 15 → y.2 c = z.2 c := fun c hc => by rw [ey, load_b hc, e2]
        have y1 : ∀ k, k ≠ 13 → y.1 k = z.1 k := fun k q => by rw [ey, load_1, e1 k q]
        have y13 : y.1 13 = nd := by rw [ey, load_1, ex, zI1, if_pos rfl]
        rw [← ey]
        refine Ev.ret ⟨y, rfl, ⟨fun a a1 a2 => by rw [ya a (by omega)]; exact h.ar a a1 a2, fun k k1 k2 => by rw [y1 k (by omega)]; exact h.sc k k1 k2, by rw [y1 14 (by decide)]; exact h.dc, by omega, fun i hi => by rw [ya 13 (by decide)]; exact h.i13 i hi, fun j hj => ?_, fun _ i hi => ?_, fun a a1 a2 i => ?_⟩, fun _ => by rw [y13, end'], ya 1 (by decide), y1 1 (by decide)⟩
        · rw [← h.nu j hj]
          unfold nuI
          rw [ya 13 (by decide), ya 14 (by decide)]
        · rw [y13, m15 i (by omega), en]
          unfold bpF
          rw [if_neg (by omega), show 1 + (20 + 56 * (nd - 1) + i - 20) / 56 = nd by omega, show (20 + 56 * (nd - 1) + i - 20) % 56 = i by omega]
        · by_cases c : a = 15
          · rw [c, ey]
            by_cases d : n = 0
            · rw [if_pos d, zR2, if_pos rfl]
              unfold flN
              split
              · decide
              · rw [e2]; exact h.wd 15 (by decide) (by decide) i
            · rw [if_neg d]
              unfold ldZ
              rw [zR2, if_pos rfl]
              unfold va_cpy
              split
              · rw [e2, h.ar 4 (by decide) (by omega)]
                exact h0.wk.wd 4 (by decide) (by decide) _
              · rw [e2]; exact h.wd 15 (by decide) (by decide) i
          · rw [ya a c]; exact h.wd a a1 a2 i
  unfold Fil_turnTo
  by_cases c : 20 ≤ k
  · rw [show (20 : Int32) = nI 20 from rfl, if_pos (nI_le c (by omega)), pk_sub c, show (56 : Int32) = nI 56 from rfl, pk_div (by omega) (by decide) (by decide), show (1 : Int32) = nI 1 from rfl, nI_add]
    exact key _ (by rw [ndK_hi c]) (by omega)
  · rw [show (20 : Int32) = nI 20 from rfl, if_neg (nI_ge (by omega) (by decide))]
    exact key 0 (by rw [ndK_lo (by omega)]) (by omega)
theorem placeOf_r (FU : Nat) {z z0 : NSt} {f : Nat} (h : RDS z z0 f) {k : Nat} (hk : k < 412) (hop : 20 ≤ k → z.1 13 = ndK k) : Fil_placeOf FU (nI k) (up z) = some (nI (bpF (zV z0) (z0.2 6) f k)) := by
  unfold Fil_placeOf
  by_cases c : 20 ≤ k
  · have ho := hop c
    rw [ndK_hi c] at ho
    have hb := h.bo (by omega) ((k - 20) % 56) (Nat.mod_lt _ (by decide))
    rw [ho, show 20 + 56 * (1 + (k - 20) / 56 - 1) + (k - 20) % 56 = k by omega] at hb
    rw [show (20 : Int32) = nI 20 from rfl, if_pos (nI_le c (by omega)), pk_sub c, show (56 : Int32) = nI 56 from rfl, pk_rem (by omega) (by decide) (by decide), rdA_z z 15 (by omega) (by decide), Option.bind_some, hb]
  · have e : bpF (zV z0) (z0.2 6) f k = zV z0 (z0.2 6 f) (6 + k) := if_pos (by omega)
    rw [show (20 : Int32) = nI 20 from rfl, if_neg (nI_ge (by omega) (by decide)), if_pos (nI_pos' (by omega)), show (6 : Int32) + nI k = nI (6 + k) from nI_add 6 k, rdA_z z 13 (by omega) (by decide), Option.bind_some, h.i13 _ (by omega), e]
theorem Row_add1 (FU : Nat) (z : NSt) {v : Nat} (hl : z.1 1 < 2000) : Row_add FU 1 (nI v) (up z) = some (up (zI (zA z 1 (z.1 1) (v % 256)) 1 (z.1 1 + 1))) := by
  unfold Row_add
  have e : lenF 1 = 2000 := rfl
  rw [e, up1, if_neg (nI_ge hl (by decide)), nI_mod, wrA_z z 1 hl (by decide), Option.bind_some, nx_eq, up1, zA1, nI_1, up_I]
/-- what was told so far -/
def TLD (z z0 : NSt) (f at' i : Nat) (fv : FV) : Prop := (RDS z z0 f) ∧ (z.1 1 = i - at') ∧ (∀ j, j < i - at' → z.2 1 j = fv.byt (at' + j))
theorem TLD.rd {z z0 : NSt} {f at' i : Nat} {fv : FV} (h9 : TLD z z0 f at' i fv) : RDS z z0 f := h9.1
theorem TLD.ln {z z0 : NSt} {f at' i : Nat} {fv : FV} (h9 : TLD z z0 f at' i fv) : z.1 1 = i - at' := h9.2.1
theorem TLD.by' {z z0 : NSt} {f at' i : Nat} {fv : FV} (h9 : TLD z z0 f at' i fv) : ∀ j, j < i - at' → z.2 1 j = fv.byt (at' + j) := h9.2.2
theorem tellStep {z z0 : NSt} {f at' i : Nat} {fv : FV} (h : TLD z z0 f at' i fv) (hi : at' ≤ i) {v : Nat} (hv : v % 256 = fv.byt i) : TLD (zI (zA z 1 (z.1 1) (v % 256)) 1 (z.1 1 + 1)) z0 f at' (i + 1) fv := by
  obtain ⟨y, ey⟩ : ∃ y, y = zI (zA z 1 (z.1 1) (v % 256)) 1 (z.1 1 + 1) := ⟨_, rfl⟩
  have ya : ∀ c, c ≠ 1 → y.2 c = z.2 c := fun c hc => by rw [ey, zI2, zA2, if_neg hc]
  have y1 : ∀ k, k ≠ 1 → y.1 k = z.1 k := fun k hk => by rw [ey, zI1, if_neg hk]; rfl
  have yt : ∀ j, y.2 1 j = if j = z.1 1 then v % 256 else z.2 1 j := fun j => by rw [ey, zI2, zA2, if_pos rfl]; rfl
  have hr := h.rd
  rw [← ey]
  refine ⟨⟨fun a a1 a2 => by rw [ya a a1]; exact hr.ar a a1 a2, fun k k1 k2 => by rw [y1 k k1]; exact hr.sc k k1 k2, by rw [y1 14 (by decide)]; exact hr.dc, by rw [y1 13 (by decide)]; exact hr.op, fun i hi => by rw [ya 13 (by decide)]; exact hr.i13 i hi, fun j hj => ?_, fun q i hi => ?_, fun a a1 a2 i => by rw [ya a (by omega)]; exact hr.wd a a1 a2 i⟩, ?_, fun j hj => ?_⟩
  · rw [← hr.nu j hj]
    unfold nuI
    rw [ya 13 (by decide), ya 14 (by decide)]
  · rw [y1 13 (by decide)] at q ⊢
    rw [ya 15 (by decide)]
    exact hr.bo q i hi
  · have := h.ln
    rw [ey, zI1, if_pos rfl]
    omega
  · have := h.ln
    rw [yt]
    by_cases c : j = z.1 1
    · rw [if_pos c, hv, c, this]
      exact congrArg fv.byt (by omega)
    · rw [if_neg c]
      exact h.by' j (by omega)
theorem tellLoop {FU : Nat} (hF : 140000 < FU) {z0 : NSt} {T R : TRE} {tk : TKS} {PP : Nat → Nat} {ch : List Nat} {f at' e : Nat} (h0 : NW z0 T R tk PP ch) (hk : T.kd f = 1) (he : at' ≤ e) (he2 : e - at' ≤ 2000) (he3 : e ≤ (T.fil f).sz ∨ e = at') (he4 : e < 2 ^ 31) :
    ∀ (m i n : Nat) (z : NSt), i + m = e → m < n → at' ≤ i → TLD z z0 f at' i (T.fil f) → ((T.fil f).sm = 0 → at' < i → i % 256 ≠ 0 → ∀ t, t < 256 → gb (fun j => z.2 16 (0 + j)) t = byB (zV z0) (bpF (zV z0) (z0.2 6) f (i / 256)) t) → Ev (Fil_tellBytes_b44 FU 1 n (nI at') (nI e) (nI i) (up z)) fun r => ∃ y, r = (nI (e - at'), up y) ∧ TLD y z0 f at' e (T.fil f) := by
  obtain ⟨g1, g2, g3⟩ := h0.tok.rng f (by omega)
  obtain ⟨hfo, hlk, hno⟩ := (h0.tok.ids f g1 g2).fil hk
  have hp0 : z0.2 6 f ≠ 0 := fun q => by
    have := (h0.tok.ids f g1 g2).pl.mp q
    omega
  have k0 := ((h0.tok.ids f g1 g2).kd (by omega)).1
  have hszb := hfo.szb
  have hsmb := hfo.smb
  intro m
  induction m with
  | zero =>
    intro i n z e1 e2 e3 hT hB
    obtain ⟨n, rfl⟩ : ∃ q9, n = q9 + 1 := ⟨n - 1, by omega⟩
    have e1 : i = e := e1
    subst e1
    unfold Fil_tellBytes_b44
    rw [if_pos (nI_le (Nat.le_refl _) he4)]
    unfold Row_length
    rw [Option.bind_some, up1, hT.ln]
    exact Ev.ret ⟨z, rfl, hT⟩
  | succ m ih =>
    intro i n z e1 e2 e3 hT hB
    obtain ⟨n, rfl⟩ : ∃ q9, n = q9 + 1 := ⟨n - 1, by omega⟩
    have hr := hT.rd
    have hi5 : i < 100000 := by omega
    have hln := hT.ln
    unfold Fil_tellBytes_b44
    rw [if_neg (nI_ge (by omega) he4), show (3 : Int32) = nI 3 from rfl, rdA_z z 13 (by decide) (by decide), Option.bind_some, hr.i13 3 (by decide), hfo.sml]
    by_cases c1 : (T.fil f).sm = 1
    · have hsz := (hfo.small c1).1
      have hl13 : lenF 13 = 64 := rfl
      rw [c1, if_pos i11, show (30 : Int32) = nI 30 from rfl, getByte_z FU z 13 (by omega) (by omega) (hr.wd 13 (by decide) (by decide) _), Option.bind_some, Row_add1 FU z (by omega), Option.bind_some]
      unfold Fil_tellBytes_b138
      rw [nI_1]
      refine ih (i + 1) n _ (by omega) (by omega) (by omega) (tellStep hT e3 ?_) (fun q => by omega)
      rw [Nat.mod_eq_of_lt (gb_lt _ _), ← hfo.byt i (by omega)]
      unfold byI
      rw [hfo.sml, c1, if_pos rfl, if_pos (by omega)]
      exact gb_congr (hr.i13 _ (by omega))
    · have c0 : (T.fil f).sm = 0 := by omega
      -- the byte of a block that is loaded
      have tell : ∀ x : NSt, TLD x z0 f at' i (T.fil f) → (∀ t, t < 256 → gb (fun j => x.2 16 (0 + j)) t = byB (zV z0) (bpF (zV z0) (z0.2 6) f (i / 256)) t) → Ev (Fil_tellBytes_b119 FU 1 (Fil_tellBytes_b44 FU 1 n) (nI at') (nI e) (nI i) (up x)) fun r => ∃ y, r = (nI (e - at'), up y) ∧ TLD y z0 f at' e (T.fil f) := by
        intro x hx hbx
        have hl16 : lenF 16 = 64 := rfl
        have hxl := hx.ln
        unfold Fil_tellBytes_b119
        rw [show (256 : Int32) = nI 256 from rfl, pk_rem (by omega) (by decide) (by decide), show (0 : Int32) = nI 0 from rfl, getByte_z FU x 16 (by omega) (by omega) (hx.rd.wd 16 (by decide) (by decide) _), Option.bind_some, Row_add1 FU x (by omega), Option.bind_some]
        unfold Fil_tellBytes_b138
        rw [nI_1]
        refine ih (i + 1) n _ (by omega) (by omega) (by omega) (tellStep hx e3 ?_) (fun _ _ q t ht => ?_)
        · rw [Nat.mod_eq_of_lt (gb_lt _ _), hbx _ (Nat.mod_lt _ (by decide)), ← hfo.byt i (by omega)]
          unfold byI
          rw [hfo.sml, c0, if_neg (by decide)]
        · have e9 : (zI (zA x 1 (x.1 1) (gb (fun j => x.2 16 (0 + j)) (i % 256) % 256)) 1 (x.1 1 + 1)).2 16 = x.2 16 := by rw [zI2, zA2, if_neg (by decide)]
          rw [e9, hbx t ht, show (i + 1) / 256 = i / 256 by omega]
      have load : Ev (Fil_tellBytes_b95 FU 1 (Fil_tellBytes_b44 FU 1 n) (nI at') (nI e) (nI i) (up z)) fun r => ∃ y, r = (nI (e - at'), up y) ∧ TLD y z0 f at' e (T.fil f) := by
        unfold Fil_tellBytes_b95
        rw [show (256 : Int32) = nI 256 from rfl, pk_div (by omega) (by decide) (by decide)]
        refine (turnTo_r hF h0 hk hr (k := i / 256) (by omega)).bd ?_
        rintro _ ⟨x, rfl, hx, x13, xt, xl⟩
        have hbb : bpF (zV z0) (z0.2 6) f (i / 256) < 2117 := by
          by_cases q : bpF (zV z0) (z0.2 6) f (i / 256) = 0
          · omega
          · have eb := BPL_f (W := zV z0) (P := z0.2 6) (id := f) (k := i / 256) hp0 g2 (by rw [k0, hk]; decide) (by omega)
            have hr' := h0.wk.tr.rb h0.wk.lg (n := f) (i := i / 256) (by rw [eb]; exact q)
            rw [eb] at hr'
            exact hr'.2.2.1
        rw [placeOf_r FU hx (by omega) x13, Option.bind_some, loadBlock_z hF hbb, Option.bind_some]
        show Ev (Fil_tellBytes_b119 FU 1 (Fil_tellBytes_b44 FU 1 n) (nI at') (nI e) (nI i) (up (lbZ x (bpF (zV z0) (z0.2 6) f (i / 256))))) _
        obtain ⟨b, eb⟩ : ∃ b, b = bpF (zV z0) (z0.2 6) f (i / 256) := ⟨_, rfl⟩
        rw [← eb] at hbb ⊢
        refine tell _ ⟨⟨fun a a1 a2 => by rw [lb_b (by omega)]; exact hx.ar a a1 a2, fun k k1 k2 => by rw [lb_1]; exact hx.sc k k1 k2, by rw [lb_1]; exact hx.dc, by rw [lb_1]; exact hx.op, fun i hi => by rw [lb_b (by decide)]; exact hx.i13 i hi, fun j hj => ?_, fun q i hi => ?_, fun a a1 a2 i => ?_⟩, by rw [lb_1, xl]; exact hln, fun j hj => by rw [lb_b (by decide), xt]; exact hT.by' j hj⟩ (fun t ht => ?_)
        · rw [← hx.nu j hj]
          unfold nuI
          rw [lb_b (by decide), lb_b (by decide)]
        · rw [lb_1] at q ⊢
          rw [lb_b (by decide)]
          exact hx.bo q i hi
        · by_cases c : a = 16
          · rw [c]
            unfold lbZ
            by_cases d : b = 0
            · rw [if_pos d, zR2, if_pos rfl]
              unfold flN
              split
              · decide
              · exact hx.wd 16 (by decide) (by decide) i
            · rw [if_neg d]
              unfold ldZ
              rw [zR2, if_pos rfl]
              unfold va_cpy
              split
              · rw [hx.ar 4 (by decide) (by omega)]
                exact h0.wk.wd 4 (by decide) (by decide) _
              · exact hx.wd 16 (by decide) (by decide) i
          · rw [lb_b c]; exact hx.wd a a1 a2 i
        · rw [lb_gb ht, ← eb]
          unfold byB
          rw [hx.V]
      rw [c0, if_neg (by decide)]
      by_cases ca : i = at'
      · rw [ca, if_pos rfl]
        rw [ca] at load
        exact load
      · rw [if_neg (fun q => ca ((nI_eq (by omega) (by omega)).mp q)), show (256 : Int32) = nI 256 from rfl, pk_rem (by omega) (by decide) (by decide)]
        by_cases c2 : i % 256 = 0
        · rw [c2, if_pos i00]
          exact load
        · rw [if_neg (ne0_I (by omega) c2)]
          exact tell z hT (hB c0 (by omega) c2)
theorem tellBytes_s {FU : Nat} (hF : 140000 < FU) {z0 : NSt} {T R : TRE} {tk : TKS} {PP : Nat → Nat} {ch : List Nat} {f at' n : Nat} (h0 : NW z0 T R tk PP ch) (hk : T.kd f = 1) (hn1 : 1 ≤ n) (hn2 : n ≤ 2000) (hat : at' < 2 ^ 31) :
    Ev (Fil_tellBytes FU 1 (nI f) (nI at') (nI n) (up z0)) fun r => ∃ y L, r = (nI L, up y) ∧ L = (if at' < (T.fil f).sz then (if (T.fil f).sz - at' < n then (T.fil f).sz - at' else n) else 0) ∧ TLD y z0 f at' (at' + L) (T.fil f) := by
  obtain ⟨g1, g2, g3⟩ := h0.tok.rng f (by omega)
  obtain ⟨hfo, hlk, hno⟩ := (h0.tok.ids f g1 g2).fil hk
  have hszb := hfo.szb
  unfold Fil_tellBytes
  refine (begin_s hF h0 hk).bd ?_
  rintro _ ⟨z, rfl, hz, z13, z14, z15, zI', za, zu, znu, zs⟩
  unfold Row_setLength
  rw [show (0 : Int32) = nI 0 from rfl, nx_eq, up_I, Option.bind_some]
  obtain ⟨x, ex⟩ : ∃ x, x = zI z 1 0 := ⟨_, rfl⟩
  have x2 : x.2 = z.2 := by rw [ex]; rfl
  have x1 : ∀ k, k ≠ 1 → x.1 k = z.1 k := fun k hk => by rw [ex, zI1, if_neg hk]
  rw [← ex, show (1 : Int32) = nI 1 from rfl, rdA_z x 13 (by decide) (by decide), Option.bind_some, x2, zI' 1 (by decide), hfo.sz]
  have hx : RDS x z0 f := by
    refine ⟨fun a a1 a2 => by rw [x2]; exact za a (by omega) (by omega), fun k k1 k2 => by rw [x1 k k1]; exact zs k (by omega) (by omega) (by omega) (by omega), by rw [x1 14 (by decide)]; exact z14, by rw [x1 13 (by decide), z13]; omega, fun i hi => by rw [x2]; exact zI' i hi, fun j hj => ?_, fun q => ?_, fun a a1 a2 i => ?_⟩
    · rw [← znu j hj]
      unfold nuI
      rw [x2]
    · rw [x1 13 (by decide), z13] at q
      omega
    · rw [x2]; exact hz.mc.wk.wd a (by omega) (by omega) i
  have hT : TLD x z0 f at' at' (T.fil f) := ⟨hx, by rw [ex, zI1, if_pos rfl]; omega, fun j hj => by omega⟩
  by_cases c : at' < (T.fil f).sz
  · rw [if_pos (nI_lt c (by omega)), Option.bind_some, pk_sub (by omega)]
    have e : (if nI ((T.fil f).sz - at') < nI n then nI ((T.fil f).sz - at') else nI n) = nI (if (T.fil f).sz - at' < n then (T.fil f).sz - at' else n) := by
      simp (disch := omega) only [nI_ltI]
      split <;> rfl
    unfold Fil_tellBytes_b39
    rw [e, nI_add]
    obtain ⟨L, eL⟩ : ∃ L, L = (if (T.fil f).sz - at' < n then (T.fil f).sz - at' else n) := ⟨_, rfl⟩
    have hL : L ≤ n ∧ L ≤ (T.fil f).sz - at' := by rw [eL]; split <;> omega
    rw [← eL]
    refine (tellLoop hF h0 hk (at' := at') (e := at' + L) (by omega) (by omega) (Or.inl (by omega)) (by omega) L at' FU x (by omega) (by omega) (Nat.le_refl _) hT (fun _ q => by omega)).mono ?_
    rintro _ ⟨y, rfl, hy⟩
    exact ⟨y, L, by rw [show at' + L - at' = L by omega], by rw [if_pos c, eL], hy⟩
  · rw [if_neg (nI_nlt (by omega) (by omega))]
    unfold Fil_tellBytes_b39
    refine (tellLoop hF h0 hk (at' := at') (e := at') (Nat.le_refl _) (by omega) (Or.inr rfl) hat 0 at' FU x (by omega) (by omega) (Nat.le_refl _) hT (fun _ q => by omega)).mono ?_
    rintro _ ⟨y, rfl, hy⟩
    exact ⟨y, 0, by rw [show at' - at' = 0 by omega], by rw [if_neg c], hy⟩
