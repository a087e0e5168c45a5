/-! a checkpoint as a whole -/
def ND (z : NSt) : Prop := ∀ s, s < z.1 6 → deadB z s = true → z.2 12 s ≠ 0
theorem CM.nd {y x : NSt} (h : CM y x) : ND x := by
  intro s hs hd
  have e6 : x.1 6 = y.1 6 := h.1 6 (by decide) (by decide)
  have hd' : deadB y s = true := by
    unfold deadB endB at hd ⊢
    rw [h.2.2.1 10 (by decide) (by decide) (by decide) (by decide), h.2.2.1 11 (by decide) (by decide) (by decide) (by decide), h.1 8 (by decide) (by decide), h.1 9 (by decide) (by decide)] at hd
    exact hd
  rw [h.2.2.2.1, if_pos ⟨by rw [← e6]; exact hs, hd'⟩]
  decide
theorem sm_int {lo hi n : Nat} (h1 : lo ≤ hi) (h2 : hi ≤ n) : sm (fun b => if lo ≤ b ∧ b < hi then 1 else 0) n = hi - lo := by
  rw [show n = lo + ((hi - lo) + (n - hi)) by omega, sm_cut, sm_cut]
  have a1 : sm (fun b => if lo ≤ b ∧ b < hi then 1 else 0) lo = 0 := sm_zero (fun b hb => if_neg (by omega))
  have a2 : sm (fun i => if lo ≤ lo + i ∧ lo + i < hi then 1 else 0) (hi - lo) = sm (fun _ => 1) (hi - lo) := sm_congr (fun i hi' => if_pos (by omega))
  have a3 : sm (fun i => if lo ≤ lo + (hi - lo + i) ∧ lo + (hi - lo + i) < hi then 1 else 0) (n - hi) = 0 := sm_zero (fun i _ => if_neg (by omega))
  rw [a1, a2, a3, sm_const]
  omega
theorem gb_end {a : NSt} (h : LG a) {e : Nat} (he : e = a.1 8 ∨ e = a.1 9) : sm (fun b => if GB a b ∧ sg b = sg e then 1 else 0) 2117 ≤ 15 := by
  have e8 := h.end8
  have e9 := h.end9
  have hb : 69 ≤ e ∧ e < 2117 := by rcases he with q | q <;> omega
  have hd := sg_dec hb.1
  have hi := sm_int (lo := 69 + 16 * sg e) (hi := e) (n := 2117) (by omega) (by omega)
  have hle : sm (fun b => if GB a b ∧ sg b = sg e then 1 else 0) 2117 ≤ sm (fun b => if 69 + 16 * sg e ≤ b ∧ b < e then 1 else 0) 2117 := sm_le (fun b _ => by
    by_cases c : GB a b ∧ sg b = sg e
    · rw [if_pos c, if_pos]
      · exact Nat.le_refl _
      · have h1 := sg_dec c.1.1.1
        refine ⟨by rw [← c.2]; omega, ?_⟩
        refine Classical.byContradiction (fun q => c.1.2.1 ?_)
        rcases he with v | v
        · exact Or.inr (Or.inl ⟨by rw [c.2, v], by omega⟩)
        · exact Or.inr (Or.inr ⟨by rw [c.2, v], by omega⟩)
    · rw [if_neg c]; exact Nat.zero_le _)
  omega
/-- blocks to spare lie in segments that can be chosen, or at an end -/
theorem gb_can {a : NSt} (h : LG a) (hn : ND a) {b : Nat} (hg : GB a b) (h8 : sg b ≠ sg (a.1 8)) (h9 : sg b ≠ sg (a.1 9)) : canB a (sg b) := by
  have hS := h.1.1.2.1
  have hs := sg_lt' hg.1.1 hg.1.2
  have hf : a.2 12 (sg b) = 0 := by
    refine Classical.byContradiction (fun q => hg.2.1 (Or.inl q))
  have hend : endB a (sg b) = false := by
    unfold endB
    refine decide_eq_false ?_
    rintro (⟨-, -, q⟩ | ⟨-, -, q⟩)
    · exact h8 q
    · exact h9 q
  have hnd : deadB a (sg b) = false := by
    cases q : deadB a (sg b)
    · rfl
    · exact absurd hf (hn _ hs q)
  obtain ⟨d1, d2⟩ := h.1.2.2.1 (sg b) (by omega)
  refine ⟨hs, ?_, ?_, hend⟩
  · refine Classical.byContradiction (fun q => ?_)
    unfold deadB at hnd
    rw [decide_eq_true (show a.2 10 (sg b) = 0 by omega), decide_eq_true (show a.2 11 (sg b) = 0 by omega), hend] at hnd
    exact absurd hnd (by decide)
  · have e : cntF (a.2 9) 1 (sg b) + cntF (a.2 9) 2 (sg b) + 1 ≤ 16 := by
      unfold cntF
      have hb := sg_dec hg.1.1
      have h1 : sm (fun j => (if a.2 9 (69 + 16 * sg b + j) = 1 then 1 else 0) + (if a.2 9 (69 + 16 * sg b + j) = 2 then 1 else 0)) 16 ≤ sm (va_up (fun _ => 1) ((b - 69) % 16) 0) 16 := sm_le (fun j hj => by
        unfold va_up
        by_cases c : j = (b - 69) % 16
        · rw [if_pos c, c, hb, hg.2.2]
          decide
        · rw [if_neg c]
          have := h.use2 (69 + 16 * sg b + j)
          show _ ≤ 1
          split <;> split <;> omega)
      rw [sm_add] at h1
      have h2 := sm_up (f := fun _ => 1) (i := (b - 69) % 16) (v := 0) (n := 16) (Nat.mod_lt _ (by decide))
      rw [sm_const] at h2
      omega
    omega
theorem cst_vcn {z : NSt} (h : LG z) : sm (fun s => if z.2 19 s ≠ 0 then cst z s else 0) 128 = vcn z 1 + 2 * vcn z 2 := by
  rw [vcn_s, vcn_s, ← sm_mul, ← sm_add]
  refine sm_congr (fun s hs => ?_)
  obtain ⟨c1, c2⟩ := h.1.2.2.1 s hs
  unfold cst
  by_cases c : z.2 19 s ≠ 0
  · rw [if_pos c, if_pos c, if_pos c, c1, c2]
  · rw [if_neg c, if_neg c, if_neg c]
theorem RND.low {a y x : NSt} {T R : TRE} {tk : TKS} {PP : Nat → Nat} {ch ch' : List Nat} (h : RND a y x T R tk PP ch ch') (hn : ND a) (hgr : ∀ v t, v < 128 → a.2 19 v ≠ 0 → canB a t → a.2 19 t = 0 → cst a v ≤ cst a t) (hmost : vcn a 1 + 2 * vcn a 2 ≤ 16 * (a.1 7 - 2)) (h4 : 81 ≤ Uz a) (hW : un a + Gd a + 144 ≤ 16 * a.1 6) : 81 ≤ Uz x ∧ un x + Gd x + 144 ≤ 16 * x.1 6 := by
  have hl := h.na.wk.lg
  obtain ⟨u1, u2, u3⟩ := h.up
  have hgd := h.gdle
  have hUf : 16 * a.1 7 + 2 ≤ Uz a := by unfold Uz; omega
  refine ⟨?_, by rw [u3, h.s6.2]; omega⟩
  have hcv := cst_vcn hl
  have hb30 : ∀ c : Nat, (∀ s, s < 128 → a.2 19 s ≠ 0 → cst a s ≤ c) → vcn a 1 + 2 * vcn a 2 ≤ c * nV a := fun c hc => by
    rw [← hcv]
    unfold nV
    rw [← sm_mul]
    refine sm_le (fun s hs => ?_)
    by_cases q : a.2 19 s ≠ 0
    · rw [if_pos q, if_pos q, Nat.mul_one]
      exact hc s hs q
    · rw [if_neg q]; exact Nat.zero_le _
  by_cases c9 : 9 ≤ a.1 7
  · have := hb30 30 (fun s hs q => by
      have := (h.vb s hs q).2.2.1
      unfold cst
      omega)
    omega
  · by_cases cA : ∀ s, s < 128 → a.2 19 s ≠ 0 → cst a s ≤ 15
    · have := hb30 15 cA
      omega
    · have hx : ∃ v, v < 128 ∧ a.2 19 v ≠ 0 ∧ 16 ≤ cst a v := by
        refine Classical.byContradiction (fun q => cA (fun s hs w => ?_))
        refine Classical.byContradiction (fun w' => q ⟨s, hs, w, by omega⟩)
      obtain ⟨v, v1, v2, v3⟩ := hx
      have hle : sm (fun b => if GB a b ∧ ¬ vic a b then 1 else 0) 2117 ≤ Gd a + sm (fun b => if GB a b ∧ sg b = sg (a.1 8) then 1 else 0) 2117 := by
        unfold Gd
        rw [← sm_add]
        refine sm_le (fun b _ => ?_)
        by_cases c : GB a b ∧ ¬ vic a b
        · rw [if_pos c]
          by_cases d : dS a (sg b)
          · rw [if_pos (show GB a b ∧ dS a (sg b) from ⟨c.1, d⟩)]
            exact Nat.le_add_right _ _
          · by_cases e : sg b = sg (a.1 8)
            · rw [if_pos (show GB a b ∧ sg b = sg (a.1 8) from ⟨c.1, e⟩)]
              exact Nat.le_add_left _ _
            · exfalso
              have hcb := gb_can hl hn c.1 e (fun q => d (Or.inr q))
              have hz : a.2 19 (sg b) = 0 := by
                refine Classical.byContradiction (fun q => c.2 ⟨c.1.1.1, q⟩)
              have := hgr v (sg b) v1 v2 hcb hz
              have hd0 : a.2 11 (sg b) = 0 := by
                refine Classical.byContradiction (fun q => d (Or.inl q))
              have := hcb.2.2.1
              unfold cst at *
              omega
        · rw [if_neg c]; exact Nat.zero_le _
      have := gb_end hl (e := a.1 8) (Or.inl rfl)
      omega
theorem none_left {a : NSt} (h : LG a) (hn : ND a) (hc : ∀ t, ¬ canB a t) : 16 * a.1 6 ≤ Uz a + un a + 30 := by
  have hp := parts3 h
  have hle : Gz a ≤ sm (fun b => if GB a b ∧ sg b = sg (a.1 8) then 1 else 0) 2117 + sm (fun b => if GB a b ∧ sg b = sg (a.1 9) then 1 else 0) 2117 := by
    unfold Gz
    rw [← sm_add]
    refine sm_le (fun b _ => ?_)
    by_cases c : GB a b
    · rw [if_pos c]
      by_cases d : sg b = sg (a.1 8)
      · rw [if_pos (show GB a b ∧ sg b = sg (a.1 8) from ⟨c, d⟩)]
        exact Nat.le_add_right _ _
      · by_cases e : sg b = sg (a.1 9)
        · rw [if_pos (show GB a b ∧ sg b = sg (a.1 9) from ⟨c, e⟩)]
          exact Nat.le_add_left _ _
        · exact absurd (gb_can h hn c d e) (hc _)
    · rw [if_neg c]; exact Nat.zero_le _
  have := gb_end h (e := a.1 8) (Or.inl rfl)
  have := gb_end h (e := a.1 9) (Or.inr rfl)
  omega
/-- what holds between the rounds of a checkpoint -/
def TKI (x : NSt) (T : TRE) (tk : TKS) : Prop := ((x.1 19, fun _ => false) = tk) ∧ (NW x T T tk (x.2 6) []) ∧ (HK x) ∧ (ND x) ∧ (81 ≤ Uz x) ∧ (un x + Gd x + 144 ≤ 16 * x.1 6) ∧ (un x ≤ x.1 17 ∧ un x ≤ x.1 16 ∧ x.1 16 + 384 ≤ 16 * x.1 6 ∧ x.1 18 = 0 ∧ x.1 17 < 2 ^ 28 ∧ x.1 19 < 2 ^ 32)
theorem TKI.tq {x : NSt} {T : TRE} {tk : TKS} (h9 : TKI x T tk) : (x.1 19, fun _ => false) = tk := h9.1
theorem TKI.nw {x : NSt} {T : TRE} {tk : TKS} (h9 : TKI x T tk) : NW x T T tk (x.2 6) [] := h9.2.1
theorem TKI.hk {x : NSt} {T : TRE} {tk : TKS} (h9 : TKI x T tk) : HK x := h9.2.2.1
theorem TKI.nd {x : NSt} {T : TRE} {tk : TKS} (h9 : TKI x T tk) : ND x := h9.2.2.2.1
theorem TKI.u81 {x : NSt} {T : TRE} {tk : TKS} (h9 : TKI x T tk) : 81 ≤ Uz x := h9.2.2.2.2.1
theorem TKI.w {x : NSt} {T : TRE} {tk : TKS} (h9 : TKI x T tk) : un x + Gd x + 144 ≤ 16 * x.1 6 := h9.2.2.2.2.2.1
theorem TKI.r {x : NSt} {T : TRE} {tk : TKS} (h9 : TKI x T tk) : un x ≤ x.1 17 ∧ un x ≤ x.1 16 ∧ x.1 16 + 384 ≤ 16 * x.1 6 ∧ x.1 18 = 0 ∧ x.1 17 < 2 ^ 28 ∧ x.1 19 < 2 ^ 32 := h9.2.2.2.2.2.2
/-- what a checkpoint leaves alone -/
def FRC (z y : NSt) : Prop := (∀ k, k ≤ 6 ∨ 16 ≤ k → y.1 k = z.1 k) ∧ (∀ a, a ≤ 3 → y.2 a = z.2 a) ∧ y.2 7 = z.2 7 ∧ y.2 8 = z.2 8
theorem FRC.rf (z : NSt) : FRC z z := ⟨fun _ _ => rfl, fun _ _ => rfl, rfl, rfl⟩
theorem FRC.trans {x y z : NSt} (h : FRC x y) (g : FRC y z) : FRC x z := ⟨fun k hk => by rw [g.1 k hk, h.1 k hk], fun a ha => by rw [g.2.1 a ha, h.2.1 a ha], by rw [g.2.2.1, h.2.2.1], by rw [g.2.2.2, h.2.2.2]⟩
theorem takeLoop {FU : Nat} (hF : 140000 < FU) {T : TRE} {tk : TKS} : ∀ (m i q : Nat) (x : NSt), i + m = 10000 → m < q → TKI x T tk → Mz x + i < 10000 → x.1 11 + m + 2 < 2 ^ 31 → Ev (Chk_take_b39 FU q (nI i) (up x)) fun r => ∃ y, r = up y ∧ NW y T T tk (y.2 6) [] ∧ HK y ∧ mbf y ≤ y.1 7 ∧ FRC x y ∧ y.1 11 ≤ x.1 11 + m ∧ SLK T x y := by
  intro m
  induction m with
  | zero =>
    intro i q x e1 e2 h hM hs
    omega
  | succ m ih =>
    intro i q x e1 e2 h hM hs
    obtain ⟨q, rfl⟩ : ∃ q9, q = q9 + 1 := ⟨q - 1, by omega⟩
    have hl := h.nw.wk.lg
    have hS := hl.1.1.2.1
    obtain ⟨r1, r2, r3, r4, r5, r6⟩ := h.r
    have h7 : x.1 7 ≤ 128 := by
      rw [hl.1.2.2.2.1.2]
      have := sm_le (f := x.2 12) (g := fun _ => 1) (n := 128) (fun i _ => by
        by_cases q : x.2 12 i = 0
        · rw [q]; exact Nat.zero_le _
        · rw [(hl.1.2.2.2.1.1 i q).1]; exact Nat.le_refl _)
      rw [sm_const] at this
      omega
    have hmb : mbf x ≤ 1000 := by
      unfold mbf
      omega
    have hU : Uz x ≤ 16 * x.1 7 + 32 := by unfold Uz; omega
    have hU2 : 16 * x.1 7 + 2 ≤ Uz x := by unfold Uz; omega
    have hu81 := h.u81
    unfold Chk_take_b39 Log_freeSegments
    rw [show (10000 : Int32) = nI 10000 from rfl, if_neg (nI_ge (by omega) (by decide)), Option.bind_some, Chk_mustBeFree_g FU (by omega) r5 (by omega), Option.bind_some, up1]
    by_cases c : mbf x ≤ x.1 7
    · rw [if_pos (nI_le c (by omega))]
      exact Ev.ret ⟨x, rfl, h.nw, h.hk, c, FRC.rf x, by omega, SLK.rf T x⟩
    · rw [if_neg (nI_ge (by omega) (by omega)), Option.bind_some, show (2 : Int32) = nI 2 from rfl, pk_sub (by omega), show (16 : Int32) = nI 16 from rfl, pk_mul, show (32 : Int32) = nI 32 from rfl]
      refine (emptySegments_s hF h.nw (by omega) (most := 16 * (x.1 7 - 2)) (dr := 32) (by omega) (by decide) (by omega)).bd ?_
      rintro r (⟨w, rfl, nw', w1, wa, wno⟩ | ⟨a, y, ch', left, rfl, na, vs, ml⟩)
      · exfalso
        have hno : ∀ t, ¬ canB x t := fun t ht => by
          have h1 := wno t ht
          have h2 := ht.2.2.1
          have h3 : cst x t ≤ 30 := by unfold cst; omega
          have h4 : (if 32 < 16 * (x.1 7 - 2) then 32 else 16 * (x.1 7 - 2)) ≥ 32 := by split <;> omega
          omega
        have := none_left hl h.nd hno
        apply c
        unfold mbf
        omega
      · show Ev (if nI 1 = 0 then some (up y) else (Chk_commit FU (up y)).bind fun p5 => Chk_take_b39 FU q (nI i + 1) p5) _
        rw [if_neg (by decide), nI_1]
        have y11 : y.1 11 = x.1 11 := by
          rw [ml.fr.1 11 (by decide) (by decide) (by decide) (by decide) (by decide) (by decide) (by decide) (by decide), vs.s1]
        refine (commit_s hF ml.nw.wk.lg (by omega)).bd ?_
        rintro _ ⟨v, rfl, hv, hc⟩
        have a6 : a.2 6 = x.2 6 := vs.ar 6 (by decide)
        have ac : ∀ s, cst a s = cst x s := fun s => by unfold cst; rw [vs.ar 10 (by decide), vs.ar 11 (by decide)]
        have acB : ∀ s, canB a s ↔ canB x s := fun s => by
          unfold canB endB
          rw [vs.ar 10 (by decide), vs.ar 11 (by decide), vs.s1]
        have hR : RND a y v T T tk (x.2 6) [] ch' := ⟨na, ml, hv, hc, fun s hs hq => (acB s).mpr (vs.vc s hs hq)⟩
        have hcost : vcn a 1 + 2 * vcn a 2 ≤ 16 * (a.1 7 - 2) := by
          rw [← cst_vcn na.wk.lg, vs.s1]
          have e : sm (fun s => if a.2 19 s ≠ 0 then cst a s else 0) 128 = sm (fun s => if a.2 19 s ≠ 0 then cst x s else 0) 128 := sm_congr (fun s _ => by rw [ac])
          have := vs.sum
          omega
        have hUa : Uz a = Uz x := Uz_frame (fun k _ _ => by rw [vs.s1])
        have hua : un a = un x := un_congr (vs.ar 9 (by decide))
        have hAVa : ∀ b, AV a b ↔ AV x b := fun b => by unfold AV; rw [vs.ar 12 (by decide), vs.s1]
        have hGBa : ∀ b, GB a b ↔ GB x b := fun b => by unfold GB mnB; rw [vs.s1, vs.ar 9 (by decide), hAVa b]
        have hdSa : ∀ s, dS a s ↔ dS x s := fun s => by unfold dS; rw [vs.s1, vs.ar 11 (by decide)]
        have hGda : Gd a = Gd x := sm_congr (fun b _ => by
          by_cases q : GB x b ∧ dS x (sg b)
          · rw [if_pos q, if_pos ⟨(hGBa b).mpr q.1, (hdSa _).mpr q.2⟩]
          · rw [if_neg q, if_neg (fun w => q ⟨(hGBa b).mp w.1, (hdSa _).mp w.2⟩)])
        have hgsa : ∀ s, gs a s = gs x s := fun s => sm_congr (fun j _ => by
          by_cases q : GB x (69 + 16 * s + j)
          · rw [if_pos q, if_pos ((hGBa _).mpr q)]
          · rw [if_neg q, if_neg (fun w => q ((hGBa _).mp w))])
        have hMa : Mz a = Mz x := by
          have hZ : ∀ s, Zs a s = Zs x s := fun s => by
            unfold Zs
            rw [hgsa s]
            by_cases q : dS x s ∧ 0 < gs x s
            · rw [if_pos q, if_pos (show dS a s ∧ 0 < gs x s from ⟨(hdSa s).mpr q.1, q.2⟩), vs.s1, vs.ar 11 (by decide)]
            · rw [if_neg q, if_neg (fun w => q ⟨(hdSa s).mp w.1, w.2⟩)]
          have hC : ∀ s, Cs a s = Cs x s := fun s => by
            unfold Cs
            rw [hgsa s]
            by_cases q : ¬ dS x s ∧ 0 < gs x s
            · rw [if_pos q, if_pos ⟨fun w => q.1 ((hdSa s).mp w), q.2⟩]
            · rw [if_neg q, if_neg (fun w => q ⟨fun w' => w.1 ((hdSa s).mpr w'), w.2⟩)]
          unfold Mz
          rw [sm_congr (fun s _ => hZ s), sm_congr (fun s _ => hC s)]
        have hNDa : ND a := fun s hs hd => by
          rw [vs.s1] at hs
          rw [vs.ar 12 (by decide)]
          refine h.nd s hs ?_
          unfold deadB endB at hd ⊢
          rw [vs.ar 10 (by decide), vs.ar 11 (by decide), vs.s1] at hd
          exact hd
        obtain ⟨l1, l2⟩ := hR.low hNDa (fun v' t g1 g2 g3 g4 => by rw [ac, ac]; exact vs.gr v' t g1 g2 ((acB t).mp g3) g4) hcost (by omega) (by rw [hua, hGda, vs.s1]; exact h.w)
        have hme := hR.meas
        have hone : 1 ≤ vcn a 2 + nVn a := by
          rcases vs.fd with ⟨-, s, s1, s2⟩ | ⟨w, -⟩
          · exact hR.one s1 s2
          · omega
        have huv := hR.up.2.2
        have ys : ∀ k, k ≤ 6 ∨ 16 ≤ k → y.1 k = x.1 k := fun k hk => by
          rw [ml.fr.1 k (by omega) (by omega) (by omega) (by omega) (by omega) (by omega) (by omega) (by omega), vs.s1]
        have vsc : ∀ k, k ≤ 6 ∨ 16 ≤ k → v.1 k = x.1 k := fun k hk => by rw [hc.1 k (by omega) (by omega), ys k hk]
        have v6 : v.2 6 = y.2 6 := hc.2.2.1 6 (by decide) (by decide) (by decide) (by decide)
        have v7 : v.2 7 = x.2 7 := by rw [hc.2.2.1 7 (by decide) (by decide) (by decide) (by decide), ml.a7, vs.ar 7 (by decide)]
        have v8 : v.2 8 = x.2 8 := by rw [hc.2.2.1 8 (by decide) (by decide) (by decide) (by decide), ml.a8, vs.ar 8 (by decide)]
        have hpz : ∀ n, (v.2 6 n = 0 ↔ x.2 6 n = 0) := fun n => by rw [v6, ml.pz n, a6]
        have hkv : HK v := ⟨fun n hn => by rw [v7, hpz n]; exact h.hk.1 n hn, fun n n1 n2 q => by rw [v7] at q; rw [hpz n]; exact h.hk.2 n n1 n2 q⟩
        have hyw := ml.nw.wk
        have nv := commit_nw (x := v) ⟨hyw.lg, hyw.tr, hyw.nu, hyw.wd⟩ ml.nw.tok ml.nw.led (by rw [hyw.pk.h0]; exact Nat.le_refl _) hyw.pk.su hv hc (by rw [ys 19 (by omega)]; exact r6) rfl (fun _ _ _ => rfl) (fun i => by rw [v7]; exact h.nw.wk.wd 7 (by decide) (by decide) i) (fun i => by rw [v8]; exact h.nw.wk.wd 8 (by decide) (by decide) i) hkv (by omega)
        have htk : ((y.1 19, fun _ => false) : TKS) = tk := by rw [ys 19 (by omega)]; exact h.tq
        rw [htk, ← v6] at nv
        have v11 : v.1 11 = x.1 11 + 1 := by rw [hc.2.1, y11]
        refine (ih (i + 1) q v (by omega) (by omega) ⟨by rw [vsc 19 (by omega)]; exact h.tq, nv, hkv, hc.nd, l1, l2, ?_⟩ (by omega) (by omega)).mono ?_
        · rw [vsc 16 (by omega), vsc 17 (by omega), vsc 18 (by omega), vsc 6 (by omega), vsc 19 (by omega), huv, hua]
          exact h.r
        · rintro r ⟨u, rfl, q1, q2, q3, q4, q5, q6⟩
          have sl1 : SLK T x a := h.nw.slk (KW.of4 (vs.ar 4 (by decide)) (vs.ar 5 (by decide))) (fun d _ => by rw [a6])
          have sl2 : SLK T y v := SLK.keep ml.nw.tok (fun d _ => by rw [v6]) (fun n q => (hc.keep hyw.lg (by rw [(hyw.p1 q).2.2.2]; decide)).2) (fun i k q => (hc.keep hyw.lg (by rw [(hyw.tr.rb hyw.lg q).2.2.2.1]; decide)).2)
          refine ⟨u, rfl, q1, q2, q3, FRC.trans ⟨vsc, fun c hc' => ?_, v7, v8⟩ q4, by omega, ((sl1.trans ml.sl).trans sl2).trans q6⟩
          rw [hc.2.2.1 c (by omega) (by omega) (by omega) (by omega), ml.fr.2 c hc', vs.ar c (by omega)]
