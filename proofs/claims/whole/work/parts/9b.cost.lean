/-! what emptying costs -/
theorem RR_inj {z : NSt} {T R : TRE} {tk : TKS} {PP : Nat → Nat} {ch : List Nat} (h : NW z T R tk PP ch) {m i m' i' : Nat} (h0 : RR (zV z) (z.2 6) m i ≠ 0) (e : RR (zV z) (z.2 6) m i = RR (zV z) (z.2 6) m' i') : m = m' ∧ i = i' := by
  have hp : ∀ m i, RR (zV z) (z.2 6) m i ≠ 0 → z.2 6 m ≠ 0 := fun m i q v => by
    unfold RR at q
    rw [if_pos v] at q
    exact q rfl
  have hm := hp m i h0
  have h0' : RR (zV z) (z.2 6) m' i' ≠ 0 := by rw [← e]; exact h0
  have hm' := hp m' i' h0'
  obtain ⟨id, base, fr, hi, hc, h1, h2, -⟩ := crd_ex h hm
  obtain ⟨id', base', fr', hi', hc', h1', h2', -⟩ := crd_ex h hm'
  have hR := RR_crd hm hc h1 h2 i
  have hR' := RR_crd hm' hc' h1' h2' i'
  have r1 : fr ≤ i ∧ i < hi := by
    refine Classical.byContradiction (fun q => h0 ?_)
    rw [hR, if_neg q]
  have r2 : fr' ≤ i' ∧ i' < hi' := by
    refine Classical.byContradiction (fun q => h0' ?_)
    rw [hR', if_neg q]
  rw [if_pos r1] at hR
  rw [if_pos r2] at hR'
  obtain ⟨t1, t2⟩ := h.wk.tr.2.2.2 id (base + (i - fr)) id' (base' + (i' - fr')) (by rw [← hR]; exact h0) (by rw [← hR, ← hR', e])
  obtain ⟨-, -, -, -, -, -, -, cc⟩ := hc
  obtain ⟨-, -, -, -, -, -, -, cc'⟩ := hc'
  subst t1
  rcases cc with ⟨v0, v1, v2, v3, -⟩ | ⟨v0, v1, v2, ⟨v3, j, v4, v5, v6, v7, -⟩ | ⟨v3, -⟩⟩
  · rcases cc' with ⟨w0, w1, w2, w3, -⟩ | ⟨w0, w1, w2, ⟨w3, j', w4, w5, w6, w7, -⟩ | ⟨w3, -⟩⟩
    · omega
    · omega
    · omega
  · rcases cc' with ⟨w0, w1, w2, w3, -⟩ | ⟨w0, w1, w2, ⟨w3, j', w4, w5, w6, w7, -⟩ | ⟨w3, -⟩⟩
    · omega
    · have : j = j' := by omega
      subst this
      exact ⟨by rw [← v6, ← w6], by omega⟩
    · omega
  · omega
/-- how many blocks of a kind are in segments that are to be emptied -/
def vcn (z : NSt) (k : Nat) : Nat := sm (fun b => if vic z b ∧ z.2 9 b = k then 1 else 0) 2117
theorem vcn_s (z : NSt) (k : Nat) : vcn z k = sm (fun s => if z.2 19 s ≠ 0 then cntF (z.2 9) k s else 0) 128 := by
  unfold vcn
  rw [show (2117 : Nat) = 69 + 128 * 16 from rfl, sm_cut]
  have e1 : sm (fun b => if vic z b ∧ z.2 9 b = k then 1 else 0) 69 = 0 := sm_zero (fun b hb => if_neg (fun q => by have := q.1.1; omega))
  rw [e1, Nat.zero_add]
  have e2 := sm_flat (fun s j => if z.2 19 s ≠ 0 ∧ z.2 9 (69 + 16 * s + j) = k then 1 else 0) (c := 16) (by decide) 128
  have e3 : sm (fun i => if vic z (69 + i) ∧ z.2 9 (69 + i) = k then 1 else 0) (128 * 16) = sm (fun i => if z.2 19 (i / 16) ≠ 0 ∧ z.2 9 (69 + 16 * (i / 16) + i % 16) = k then 1 else 0) (128 * 16) := sm_congr (fun i _ => by
    have hs : sg (69 + i) = i / 16 := by unfold sg; omega
    have hb : 69 + 16 * (i / 16) + i % 16 = 69 + i := by omega
    rw [hb]
    by_cases c : z.2 19 (i / 16) ≠ 0 ∧ z.2 9 (69 + i) = k
    · rw [if_pos c, if_pos ⟨⟨by omega, by rw [hs]; exact c.1⟩, c.2⟩]
    · rw [if_neg c, if_neg (fun q => c ⟨by rw [← hs]; exact q.1.2, q.2⟩)])
  rw [e3, ← e2]
  refine sm_congr (fun s _ => ?_)
  unfold cntF
  by_cases c : z.2 19 s ≠ 0
  · rw [if_pos c]
    exact sm_congr (fun j _ => by
      by_cases d : z.2 9 (69 + 16 * s + j) = k
      · rw [if_pos d, if_pos ⟨c, d⟩]
      · rw [if_neg d, if_neg (fun q => d q.2)])
  · rw [if_neg c]
    exact sm_zero (fun j _ => if_neg (fun q => c q.1))
theorem mvn_sum {z : NSt} {T R : TRE} {tk : TKS} {PP : Nat → Nat} {ch : List Nat} (h : NW z T R tk PP ch) : sm (fun m => mvn z m) 2048 ≤ vcn z 2 := by
  have e := sm_flat (fun m i => if vic z (RR (zV z) (z.2 6) m i) then 1 else 0) (c := 56) (by decide) 2048
  have e0 : sm (fun m => mvn z m) 2048 = sm (fun i => if vic z (RR (zV z) (z.2 6) (i / 56) (i % 56)) then 1 else 0) (2048 * 56) := e
  rw [e0]
  unfold vcn
  refine cnt_le (f := fun i => RR (zV z) (z.2 6) (i / 56) (i % 56)) (p := fun i => vic z (RR (zV z) (z.2 6) (i / 56) (i % 56))) (q := fun b => vic z b ∧ z.2 9 b = 2) (fun i _ hp => ?_) (fun i i' _ _ hp _ e' => ?_)
  · have h0 : RR (zV z) (z.2 6) (i / 56) (i % 56) ≠ 0 := fun q => vic0 z (by rw [← q]; exact hp)
    have hm : z.2 6 (i / 56) ≠ 0 := fun v => by
      unfold RR at h0
      rw [if_pos v] at h0
      exact h0 rfl
    obtain ⟨id, base, fr, hi, hc, h1, h2, -⟩ := crd_ex h hm
    have hR := RR_crd hm hc h1 h2 (i % 56)
    by_cases r1 : fr ≤ i % 56 ∧ i % 56 < hi
    · rw [if_pos r1] at hR
      have hr := h.wk.tr.rb h.wk.lg (n := id) (i := base + (i % 56 - fr)) (by rw [← hR]; exact h0)
      rw [← hR] at hr
      exact ⟨hr.2.2.1, hp, hr.2.2.2.1⟩
    · rw [if_neg r1] at hR
      exact absurd hR h0
  · have h0 : RR (zV z) (z.2 6) (i / 56) (i % 56) ≠ 0 := fun q => vic0 z (by rw [← q]; exact hp)
    obtain ⟨a1, a2⟩ := RR_inj h h0 e'
    omega
theorem vicP_sum {z : NSt} {T R : TRE} {tk : TKS} {PP : Nat → Nat} {ch : List Nat} (h : NW z T R tk PP ch) : sm (fun m => if vic z (z.2 6 m) then 1 else 0) 2048 ≤ vcn z 1 := by
  unfold vcn
  refine cnt_le (f := fun m => z.2 6 m) (p := fun m => vic z (z.2 6 m)) (q := fun b => vic z b ∧ z.2 9 b = 1) (fun m _ hp => ?_) (fun m m' _ _ hp _ e => ?_)
  · have h0 : z.2 6 m ≠ 0 := fun q => vic0 z (by rw [← q]; exact hp)
    obtain ⟨a1, a2, a3, a4⟩ := h.wk.p1 h0
    exact ⟨a3, hp, a4⟩
  · have h0 : z.2 6 m ≠ 0 := fun q => vic0 z (by rw [← q]; exact hp)
    exact h.wk.tr.1 m m' e h0
theorem cost_sum {z : NSt} {T R : TRE} {tk : TKS} {PP : Nat → Nat} {ch : List Nat} (h : NW z T R tk PP ch) : sm (fun m => mvn z m + chN z m) 2048 ≤ sm (fun s => if z.2 19 s ≠ 0 then cst z s else 0) 128 := by
  have e1 : sm (fun m => mvn z m + chN z m) 2048 ≤ sm (fun m => (if vic z (z.2 6 m) then 1 else 0) + 2 * mvn z m) 2048 := sm_le (fun m _ => by
    unfold chN
    by_cases c : vic z (z.2 6 m) ∨ 0 < mvn z m
    · rw [if_pos c]
      by_cases d : vic z (z.2 6 m)
      · rw [if_pos d]; omega
      · rw [if_neg d]
        have := c.resolve_left d
        omega
    · rw [if_neg c]
      omega)
  have e2 : sm (fun m => (if vic z (z.2 6 m) then 1 else 0) + 2 * mvn z m) 2048 = sm (fun m => if vic z (z.2 6 m) then 1 else 0) 2048 + 2 * sm (fun m => mvn z m) 2048 := by
    rw [sm_add (f := fun m => if vic z (z.2 6 m) then 1 else 0) (g := fun m => 2 * mvn z m), sm_mul]
  have e3 : sm (fun s => if z.2 19 s ≠ 0 then cst z s else 0) 128 = vcn z 1 + 2 * vcn z 2 := by
    rw [vcn_s, vcn_s, ← sm_mul, ← sm_add]
    refine sm_congr (fun s hs => ?_)
    obtain ⟨c1, c2⟩ := h.wk.lg.1.2.2.1 s hs
    unfold cst
    by_cases c : z.2 19 s ≠ 0
    · rw [if_pos c, if_pos c, if_pos c, c1, c2]
    · rw [if_neg c, if_neg c, if_neg c]
  have := mvn_sum h
  have := vicP_sum h
  omega
/-! the choice of segments -/
theorem clearV_b (FU : Nat) : ∀ (m i n : Nat) (y2 y3 y4 : Int32) (z : NSt), i + m = 128 → m < n → Cle_emptySegments_b8 FU n y2 y3 y4 (nI i) (up z) = Cle_emptySegments_b33 FU FU y2 y3 y4 (0 : Int32) (up (zR z 19 (flN (z.2 19) i 128 0))) := by
  intro m
  induction m with
  | zero =>
    intro i n y2 y3 y4 z e1 e2
    obtain ⟨n, rfl⟩ : ∃ q9, n = q9 + 1 := ⟨n - 1, by omega⟩
    have e1 : i = 128 := e1
    subst e1
    unfold Cle_emptySegments_b8
    rw [if_pos (by decide)]
    have e : zR z 19 (flN (z.2 19) 128 128 0) = z := by
      refine zext (fun k => rfl) (fun a j => ?_)
      rw [zR2]
      split
      · rename_i q
        rw [q]
        exact if_neg (by omega)
      · rfl
    rw [e]
  | succ m ih =>
    intro i n y2 y3 y4 z e1 e2
    obtain ⟨n, rfl⟩ : ∃ q9, n = q9 + 1 := ⟨n - 1, by omega⟩
    unfold Cle_emptySegments_b8
    rw [show (128 : Int32) = nI 128 from rfl, if_neg (nI_ge (by omega) (by decide)), nz_0, wrA_z z 19 (by omega) (by decide), Option.bind_some, nI_1, ih (i + 1) n y2 y3 y4 _ (by omega) (by omega)]
    have e : zR (zA z 19 i 0) 19 (flN ((zA z 19 i 0).2 19) (i + 1) 128 0) = zR z 19 (flN (z.2 19) i 128 0) := by
      refine zext (fun k => rfl) (fun a j => ?_)
      rw [zR2, zR2]
      by_cases c : a = 19
      · rw [if_pos c, if_pos c]
        unfold flN
        rw [zA2, if_pos rfl]
        unfold va_up
        by_cases d : i + 1 ≤ j ∧ j < 128
        · rw [if_pos d, if_pos (by omega)]
        · rw [if_neg d]
          by_cases d2 : j = i
          · rw [if_pos d2, if_pos (by omega)]
          · rw [if_neg d2, if_neg (by omega)]
      · rw [if_neg c, if_neg c, zA2, if_neg c]
    rw [e]
/-- segments that were chosen -/
def canB (z : NSt) (s : Nat) : Prop := s < z.1 6 ∧ 0 < z.2 10 s + z.2 11 s ∧ z.2 10 s + z.2 11 s < 16 ∧ endB z s = false
def VCS (z a : NSt) (most left fnd : Nat) : Prop := (a.1 = z.1) ∧ (∀ c, c ≠ 19 → a.2 c = z.2 c) ∧ (∀ s, a.2 19 s < 2 ^ 32) ∧ (∀ s, s < 128 → a.2 19 s ≤ 1) ∧ (∀ s, s < 128 → a.2 19 s ≠ 0 → canB z s) ∧ (sm (fun s => if a.2 19 s ≠ 0 then cst z s else 0) 128 + left = most) ∧ ((fnd = 1 ∧ ∃ s, s < 128 ∧ a.2 19 s ≠ 0) ∨ (fnd = 0 ∧ ∀ s, s < 128 → a.2 19 s = 0)) ∧ (∀ v t, v < 128 → a.2 19 v ≠ 0 → canB z t → a.2 19 t = 0 → cst z v ≤ cst z t)
theorem VCS.s1 {z a : NSt} {most left fnd : Nat} (h9 : VCS z a most left fnd) : a.1 = z.1 := h9.1
theorem VCS.ar {z a : NSt} {most left fnd : Nat} (h9 : VCS z a most left fnd) : ∀ c, c ≠ 19 → a.2 c = z.2 c := h9.2.1
theorem VCS.w9 {z a : NSt} {most left fnd : Nat} (h9 : VCS z a most left fnd) : ∀ s, a.2 19 s < 2 ^ 32 := h9.2.2.1
theorem VCS.v1 {z a : NSt} {most left fnd : Nat} (h9 : VCS z a most left fnd) : ∀ s, s < 128 → a.2 19 s ≤ 1 := h9.2.2.2.1
theorem VCS.vc {z a : NSt} {most left fnd : Nat} (h9 : VCS z a most left fnd) : ∀ s, s < 128 → a.2 19 s ≠ 0 → canB z s := h9.2.2.2.2.1
theorem VCS.sum {z a : NSt} {most left fnd : Nat} (h9 : VCS z a most left fnd) : sm (fun s => if a.2 19 s ≠ 0 then cst z s else 0) 128 + left = most := h9.2.2.2.2.2.1
theorem VCS.fd {z a : NSt} {most left fnd : Nat} (h9 : VCS z a most left fnd) : (fnd = 1 ∧ ∃ s, s < 128 ∧ a.2 19 s ≠ 0) ∨ (fnd = 0 ∧ ∀ s, s < 128 → a.2 19 s = 0) := h9.2.2.2.2.2.2.1
theorem VCS.gr {z a : NSt} {most left fnd : Nat} (h9 : VCS z a most left fnd) : ∀ v t, v < 128 → a.2 19 v ≠ 0 → canB z t → a.2 19 t = 0 → cst z v ≤ cst z t := h9.2.2.2.2.2.2.2
theorem nz1_n : nz 1 = nI 1 := nz_1
theorem chooseV {FU : Nat} (hF : 140000 < FU) {z : NSt} (hl : LG z) {most dr : Nat} (hm : most < 2 ^ 20) (hd : dr < 2 ^ 20) (Q : Int32 × St → Prop) (hq : ∀ a left fnd, VCS z a most left fnd → (fnd = 0 → ∀ t, canB z t → (if dr < most then dr else most) < cst z t) → Ev (Cle_emptySegments_b86 FU (nI fnd) (up a)) Q) : ∀ (m i q : Nat) (a : NSt) (left fnd : Nat), i + m = 128 → m < q → VCS z a most left fnd → (fnd = 0 → i = 0 ∧ left = most) → Ev (Cle_emptySegments_b33 FU q (nI dr) (nI left) (nI fnd) (nI i) (up a)) Q := by
  have hS := hl.1.1.2.1
  intro m
  induction m with
  | zero =>
    intro i q a left fnd e1 e2 h hz
    obtain ⟨q, rfl⟩ : ∃ q9, q = q9 + 1 := ⟨q - 1, by omega⟩
    have e1 : i = 128 := e1
    subst e1
    unfold Cle_emptySegments_b33
    rw [if_pos (by decide)]
    exact hq a left fnd h (fun v => by have := (hz v).1; omega)
  | succ m ih =>
    intro i q a left fnd e1 e2 h hz
    obtain ⟨q, rfl⟩ : ∃ q9, q = q9 + 1 := ⟨q - 1, by omega⟩
    have hsum := h.sum
    have hla : LG a := hl.frame (fun k _ _ => by rw [h.s1]) (fun c hc => h.ar c (by omega))
    have a6 : a.1 6 = z.1 6 := by rw [h.s1]
    have hend : ∀ s, endB a s = endB z s := fun s => by unfold endB; rw [h.s1]
    have hcst : ∀ s, cst a s = cst z s := fun s => by unfold cst; rw [h.ar 10 (by decide), h.ar 11 (by decide)]
    have hcand : ∀ t, cand a t ↔ canB z t ∧ a.2 19 t = 0 := fun t => by
      unfold cand canB
      rw [a6, h.ar 10 (by decide), h.ar 11 (by decide), hend t]
      constructor
      · rintro ⟨v1, v2, v3, v4, v5⟩; exact ⟨⟨v1, v2, v3, v5⟩, v4⟩
      · rintro ⟨⟨v1, v2, v3, v5⟩, v4⟩; exact ⟨v1, v2, v3, v4, v5⟩
    have hfnd : fnd = 0 ∨ fnd = 1 := by
      rcases h.fd with ⟨v, -⟩ | ⟨v, -⟩ <;> omega
    unfold Cle_emptySegments_b33
    rw [show (128 : Int32) = nI 128 from rfl, if_neg (nI_ge (by omega) (by decide))]
    have eD : (if nI dr < nI left then nI dr else nI left) = nI (if dr < left then dr else left) := by
      simp (disch := omega) only [nI_ltI]
      split <;> rfl
    rw [eD]
    obtain ⟨D, eD2⟩ : ∃ D, D = (if dr < left then dr else left) := ⟨_, rfl⟩
    have hDl : D ≤ left ∧ D ≤ dr := by rw [eD2]; split <;> omega
    rw [← eD2]
    unfold Cle_cheapest
    rw [nI_1]
    refine (cheapest_b FU hla h.v1 (D := D) (by omega) (a.1 6) 0 FU (D + 1) (-1) (by omega) (by omega) (Or.inl ⟨rfl, rfl, fun t ht => by omega⟩)).bd ?_
    rintro r (⟨rfl, hno⟩ | ⟨s, rfl, hc, hcs, hmin⟩)
    · rw [if_neg neg_nle0]
      refine hq a left fnd h (fun v t ht => ?_)
      obtain ⟨-, v2⟩ := hz v
      rcases h.fd with ⟨w, -⟩ | ⟨-, w⟩
      · omega
      · have ht128 : t < 128 := by have := ht.1; omega
        have := hno t ((hcand t).mpr ⟨ht, w t ht128⟩)
        rw [hcst, eD2, v2] at this
        exact this
    · obtain ⟨hcb, hv0⟩ := (hcand s).mp hc
      have hs128 : s < 128 := by have := hcb.1; omega
      rw [hcst] at hcs
      rw [if_pos (nI_pos' (by omega)), nz_1, wrA_z a 19 hs128 (by decide), Option.bind_some]
      obtain ⟨a', ea⟩ : ∃ a', a' = zA a 19 s 1 := ⟨_, rfl⟩
      rw [← ea]
      have a's : a'.1 = z.1 := by rw [ea, zA1, h.s1]
      have a'r : ∀ c, c ≠ 19 → a'.2 c = z.2 c := fun c hc' => by rw [ea, zA2, if_neg hc', h.ar c hc']
      have a'v : ∀ t, a'.2 19 t = if t = s then 1 else a.2 19 t := fun t => by rw [ea, zA2, if_pos rfl]; rfl
      have hcst' : cst a' s = cst z s := by unfold cst; rw [a'r 10 (by decide), a'r 11 (by decide)]
      rw [Cle_cost_z FU hs128, Option.bind_some, hcst', pk_sub (by omega), nI_1, show (1 : Int32) = nI 1 from rfl]
      refine ih (i + 1) q a' (left - cst z s) 1 (by omega) (by omega) ⟨a's, a'r, fun t => ?_, fun t ht => ?_, fun t ht q' => ?_, ?_, Or.inl ⟨rfl, s, hs128, by rw [a'v, if_pos rfl]; decide⟩, fun v t hv q1 q2 q3 => ?_⟩ (fun v => by omega)
      · rw [a'v]
        split
        · decide
        · exact h.w9 t
      · rw [a'v]
        split
        · exact Nat.le_refl _
        · exact h.v1 t ht
      · rw [a'v] at q'
        by_cases c : t = s
        · rw [c]; exact hcb
        · rw [if_neg c] at q'; exact h.vc t ht q'
      · have hup := sm_up (f := fun t => if a.2 19 t ≠ 0 then cst z t else 0) (i := s) (v := cst z s) (n := 128) hs128
        have e : sm (fun t => if a'.2 19 t ≠ 0 then cst z t else 0) 128 = sm (va_up (fun t => if a.2 19 t ≠ 0 then cst z t else 0) s (cst z s)) 128 := sm_congr (fun t _ => by
          rw [a'v]
          unfold va_up
          by_cases c : t = s
          · rw [if_pos c, if_pos c, if_pos (by decide), c]
          · rw [if_neg c, if_neg c])
        have hup : sm (va_up (fun t => if a.2 19 t ≠ 0 then cst z t else 0) s (cst z s)) 128 + (if a.2 19 s ≠ 0 then cst z s else 0) = sm (fun t => if a.2 19 t ≠ 0 then cst z t else 0) 128 + cst z s := hup
        rw [if_neg (fun w => w hv0)] at hup
        rw [e]
        omega
      · rw [a'v] at q1 q3
        by_cases ct : t = s
        · rw [if_pos ct] at q3; omega
        · rw [if_neg ct] at q3
          by_cases c : v = s
          · rw [c]
            have := hmin t ((hcand t).mpr ⟨q2, q3⟩)
            rw [hcst, hcst] at this
            exact this
          · rw [if_neg c] at q1
            exact h.gr v t hv q1 q2 q3
theorem emptySegments_s {FU : Nat} (hF : 140000 < FU) {z : NSt} {T R : TRE} {tk : TKS} {PP : Nat → Nat} {ch : List Nat} (h : NW z T R tk PP ch) (hse : z.1 11 < 2 ^ 32) {most dr : Nat} (hm : most < 2 ^ 20) (hd : dr < 2 ^ 20) (hU : 34 + most ≤ Uz z) :
    Ev (Cle_emptySegments FU (nI most) (nI dr) (up z)) fun r => (∃ x, r = (nI 0, up x) ∧ NW x T R tk PP ch ∧ x.1 = z.1 ∧ (∀ c, c ≠ 19 → x.2 c = z.2 c) ∧ ∀ t, canB z t → (if dr < most then dr else most) < cst z t) ∨ (∃ a y ch' left, r = (nI 1, up y) ∧ NW a T R tk PP ch ∧ VCS z a most left 1 ∧ MLP a y T R tk PP ch' 2048) := by
  have hS := h.wk.lg.1.1.2.1
  unfold Cle_emptySegments
  rw [show (0 : Int32) = nI 0 from rfl, clearV_b FU 128 0 FU _ _ _ z (by omega) (by omega)]
  obtain ⟨z1, e1⟩ : ∃ z1, z1 = zR z 19 (flN (z.2 19) 0 128 0) := ⟨_, rfl⟩
  rw [← e1]
  have w32 : ∀ s, z1.2 19 s < 2 ^ 32 := fun s => by
    rw [e1, zR2, if_pos rfl]
    unfold flN
    split
    · decide
    · exact h.wk.wd 19 (by decide) (by decide) s
  have hv0 : ∀ s, s < 128 → z1.2 19 s = 0 := fun s hs => by
    rw [e1, zR2, if_pos rfl]
    exact if_pos ⟨by omega, hs⟩
  have hvs : VCS z z1 most most 0 := ⟨by rw [e1]; rfl, fun c hc => by rw [e1, zR2, if_neg hc], w32, fun s hs => by rw [hv0 s hs]; omega, fun s hs q => absurd (hv0 s hs) q, by
    have : sm (fun s => if z1.2 19 s ≠ 0 then cst z s else 0) 128 = 0 := sm_zero (fun s hs => if_neg (fun q => q (hv0 s hs)))
    omega, Or.inr ⟨rfl, hv0⟩, fun v t hv q => absurd (hv0 v hv) q⟩
  have hnw : ∀ a left fnd, VCS z a most left fnd → NW a T R tk PP ch := fun a left fnd g => by
    refine h.frame (g.ar 4 (by decide)) (g.ar 6 (by decide)) (h.wk.mem (fun k _ _ => by rw [g.s1]) (fun c _ _ _ _ => g.ar c (by omega)) (fun n _ => Or.inl (by rw [g.ar 7 (by decide)])) (fun c c1 c2 i => ?_))
    by_cases q : c = 19
    · rw [q]; exact g.w9 i
    · rw [g.ar c q]; exact h.wk.wd c c1 c2 i
  refine chooseV hF h.wk.lg hm hd _ ?_ 128 0 FU z1 most 0 (by omega) (by omega) hvs (fun _ => ⟨rfl, rfl⟩)
  intro a left fnd g gz
  have na := hnw a left fnd g
  have hU' : Uz a = Uz z := Uz_frame (fun k _ _ => by rw [g.s1])
  rcases g.fd with ⟨rfl, s0, hs0, hs1⟩ | ⟨rfl, hz⟩
  · unfold Cle_emptySegments_b86
    have hcs : sm (fun s => if a.2 19 s ≠ 0 then cst a s else 0) 128 ≤ most := by
      have e : sm (fun s => if a.2 19 s ≠ 0 then cst a s else 0) 128 = sm (fun s => if a.2 19 s ≠ 0 then cst z s else 0) 128 := sm_congr (fun s _ => by
        have : cst a s = cst z s := by unfold cst; rw [g.ar 10 (by decide), g.ar 11 (by decide)]
        rw [this])
      have := g.sum
      omega
    have hct := cost_sum na
    have hvf : ∀ s, a.2 12 s ≠ 0 → a.2 19 s = 0 := fun s hs => by
      refine Classical.byContradiction (fun q => ?_)
      rw [g.ar 12 (by decide)] at hs
      obtain ⟨f1, f2, f3⟩ := h.wk.lg.1.2.2.2.1.1 s hs
      obtain ⟨v1, v2, -⟩ := g.vc s (by omega) q
      have c1 := cnt_free h.wk.lg.1 hs 1 (by decide)
      have c2 := cnt_free h.wk.lg.1 hs 2 (by decide)
      obtain ⟨d1, d2⟩ := h.wk.lg.1.2.2.1 s (by omega)
      omega
    have hend : ∀ e, 69 ≤ e → e < 2117 → (e = z.1 8 ∨ e = z.1 9) → a.2 19 (sg e) = 0 := fun e e1' e2' e3' => by
      refine Classical.byContradiction (fun q => ?_)
      have := (g.vc (sg e) (sg_lt e1' e2') q).2.2.2
      unfold endB at this
      have h3 := of_decide_eq_false this
      rcases e3' with v | v
      · exact h3 (Or.inl ⟨by omega, by omega, by rw [v]⟩)
      · exact h3 (Or.inr ⟨by omega, by omega, by rw [v]⟩)
    have e8 := h.wk.lg.end8
    have e9 := h.wk.lg.end9
    have p0 : ∀ m, m < 1 → a.2 6 m = 0 := fun m hm' => by
      rw [show m = 0 by omega]; exact na.p0
    refine (moveAll hF na g.v1 hvf (by rw [g.s1]; exact hse) (by omega) 2047 1 FU a ch (by omega) (by omega) (Nat.le_refl _) ⟨na, FR.rf a, rfl, rfl, rfl, ?_, fun _ _ => rfl, KW.rf a, fun _ => Iff.rfl, fun m hm' => ?_, fun b _ q => absurd rfl q, fun b q1 q2 => absurd q1 q2, fun _ q => q, by rw [g.s1]; exact hend _ (by omega) (by omega) (Or.inl rfl), by rw [g.s1]; exact hend _ (by omega) (by omega) (Or.inr rfl), rfl, AVK.rf a, fun b q1 q2 => absurd q2 (by rw [na.wk.lg.unused q1]; decide), fun b q1 q2 => absurd q2 (by rw [na.wk.lg.unused q1]; decide), Or.inl rfl, Or.inl rfl, SLK.rf T a⟩).mono ?_
    · show Uz a + (0 + (mvn a 0 + chN a 0)) = Uz a
      obtain ⟨v1, v2⟩ := mvn_0 na.p0
      omega
    · rw [p0 m hm']
      refine ⟨vic0 a, fun i => ?_⟩
      unfold RR
      rw [if_pos (p0 m hm')]
      exact vic0 a
    · rintro _ ⟨y, ch', rfl, hy⟩
      exact Or.inr ⟨a, y, ch', left, rfl, na, g, hy⟩
  · unfold Cle_emptySegments_b86
    obtain ⟨FU', rfl⟩ : ∃ q, FU = q + 1 := ⟨FU - 1, by omega⟩
    unfold Cle_emptySegments_b89
    rw [if_pos i00, if_pos (Or.inl i00)]
    exact Ev.ret (Or.inl ⟨a, rfl, na, g.s1, g.ar, gz rfl⟩)
