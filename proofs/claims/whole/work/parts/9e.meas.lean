/-! cleaning comes to an end -/
def gs (z : NSt) (s : Nat) : Nat := sm (fun j => if GB z (69 + 16 * s + j) then 1 else 0) 16
theorem gs_pos {z : NSt} {s : Nat} (h : 0 < gs z s) : ∃ b, sg b = s ∧ GB z b := by
  obtain ⟨j, j1, j2⟩ := sm_ex h
  refine ⟨69 + 16 * s + j, sg_of j1, ?_⟩
  refine Classical.byContradiction (fun q => j2 (if_neg q))
theorem gs_of {z : NSt} {b : Nat} (h : GB z b) : 0 < gs z (sg b) := by
  have hb := sg_dec h.1.1
  have := sm_one (f := fun j => if GB z (69 + 16 * sg b + j) then 1 else 0) (i := (b - 69) % 16) (n := 16) (Nat.mod_lt _ (by decide))
  have this : (if GB z (69 + 16 * sg b + (b - 69) % 16) then 1 else 0) ≤ gs z (sg b) := this
  rw [hb, if_pos h] at this
  omega
def Zs (z : NSt) (s : Nat) : Nat := if dS z s ∧ 0 < gs z s then (if s = sg (z.1 9) then 16 else z.2 11 s) else 0
def Cs (z : NSt) (s : Nat) : Nat := if ¬ dS z s ∧ 0 < gs z s then 1 else 0
def Mz (z : NSt) : Nat := 2 * sm (Zs z) 128 + sm (Cs z) 128
def nVn (a : NSt) : Nat := sm (fun s => if a.2 19 s ≠ 0 ∧ a.2 11 s = 0 then 1 else 0) 128
theorem Mz_le {z : NSt} (h : LG z) : Mz z ≤ 4224 := by
  have h1 := sm_bnd (f := Zs z) (n := 128) (c := 16) (fun s hs => by
    unfold Zs
    have := (h.1.cnt16 hs).2
    split
    · split <;> omega
    · omega)
  have h2 := sm_bnd (f := Cs z) (n := 128) (c := 1) (fun s hs => by
    unfold Cs
    split <;> omega)
  unfold Mz
  omega
/-- a chosen segment has a block to spare -/
theorem can_gs {a : NSt} (hl : LG a) {s : Nat} (hc : canB a s) : 0 < gs a s ∧ s ≠ sg (a.1 8) ∧ s ≠ sg (a.1 9) ∧ a.2 12 s = 0 := by
  have hS := hl.1.1.2.1
  obtain ⟨c1, c2, c3, c4⟩ := hc
  have h3 := of_decide_eq_false c4
  have e8 := hl.end8
  have e9 := hl.end9
  have n8 : s ≠ sg (a.1 8) := fun q => h3 (Or.inl ⟨e8.1, e8.2.2.1, q⟩)
  have n9 : s ≠ sg (a.1 9) := fun q => h3 (Or.inr ⟨e9.1, e9.2.2.1, q⟩)
  obtain ⟨d1, d2⟩ := hl.1.2.2.1 s (by omega)
  have hf : a.2 12 s = 0 := by
    refine Classical.byContradiction (fun q => ?_)
    have := cnt_free hl.1 q 1 (by decide)
    have := cnt_free hl.1 q 2 (by decide)
    omega
  refine ⟨?_, n8, n9, hf⟩
  refine Classical.byContradiction (fun q => ?_)
  have hz : gs a s = 0 := by omega
  have hall : ∀ j, j < 16 → a.2 9 (69 + 16 * s + j) ≠ 0 := fun j hj u => by
    have := sm_z hz hj
    have this : (if GB a (69 + 16 * s + j) then 1 else 0) = 0 := this
    rw [if_pos] at this
    · omega
    · refine ⟨⟨by omega, by omega⟩, ?_, u⟩
      rintro (w | ⟨w, -⟩ | ⟨w, -⟩)
      · rw [sg_of hj] at w; exact w hf
      · rw [sg_of hj] at w; exact n8 w
      · rw [sg_of hj] at w; exact n9 w
  have e : cntF (a.2 9) 1 s + cntF (a.2 9) 2 s = 16 := by
    unfold cntF
    rw [← sm_add, sm_congr (g := fun _ => 1) (fun j hj => ?_), sm_const]
    have := hall j hj
    have hu := hl.use2 (69 + 16 * s + j)
    by_cases u : a.2 9 (69 + 16 * s + j) = 1
    · rw [if_pos u, if_neg (by omega)]
    · rw [if_neg u, if_pos (by omega)]
  omega
theorem RND.u2 {a y x : NSt} {T R : TRE} {tk : TKS} {PP : Nat → Nat} {ch ch' : List Nat} (h : RND a y x T R tk PP ch ch') {b : Nat} (hv : ¬ vic a b) (h2 : a.2 9 b = 2) : y.2 9 b = 2 := by
  refine Classical.byContradiction (fun q => ?_)
  have hw : a.2 5 b ≠ 0 := by
    have := (h.na.wk.lg.1.2.1 b (by omega)).2.2.2
    omega
  rcases (h.ml.u0 b hw (by rw [h2]; exact q)).2 with v | ⟨m, -, v2, v3⟩
  · exact hv v
  · have hm0 : a.2 6 m ≠ 0 := fun q' => by rw [(mvn_0 q').1] at v3; omega
    have := (h.na.wk.p1 hm0).2.2.2
    rw [← v2] at this
    omega
theorem RND.y2 {a y x : NSt} {T R : TRE} {tk : TKS} {PP : Nat → Nat} {ch ch' : List Nat} (h : RND a y x T R tk PP ch ch') {b : Nat} (hf : a.2 12 (sg b) = 0) (h9 : sg b ≠ sg (a.1 9)) (h2 : y.2 9 b = 2) : a.2 9 b = 2 := by
  by_cases w : a.2 5 b = 0
  · rcases h.ml.w2 b w h2 with v | v
    · exact absurd v h9
    · exact absurd hf v
  · refine Classical.byContradiction (fun v => ?_)
    have := (h.ml.u0 b w (by rw [h2]; exact Ne.symm v)).1
    omega
theorem RND.y1 {a y x : NSt} {T R : TRE} {tk : TKS} {PP : Nat → Nat} {ch ch' : List Nat} (h : RND a y x T R tk PP ch ch') {b : Nat} (hf : a.2 12 (sg b) = 0) (h9 : sg b ≠ sg (a.1 8)) (h2 : y.2 9 b = 1) : a.2 9 b = 1 := by
  by_cases w : a.2 5 b = 0
  · rcases h.ml.w1 b w h2 with v | v
    · exact absurd v h9
    · exact absurd hf v
  · refine Classical.byContradiction (fun v => ?_)
    have := (h.ml.u0 b w (by rw [h2]; exact Ne.symm v)).1
    omega
theorem cnt_ex {u : Nat → Nat} {k s : Nat} (h : cntF u k s ≠ 0) : ∃ b, sg b = s ∧ 69 ≤ b ∧ u b = k := by
  obtain ⟨j, j1, j2⟩ := sm_ex (Nat.pos_of_ne_zero h)
  refine ⟨69 + 16 * s + j, sg_of j1, by omega, ?_⟩
  refine Classical.byContradiction (fun q => j2 (if_neg q))
theorem cnt_of {u : Nat → Nat} {k b : Nat} (h69 : 69 ≤ b) (h : u b = k) : cntF u k (sg b) ≠ 0 := by
  have hb := sg_dec h69
  have := sm_one (f := fun j => if u (69 + 16 * sg b + j) = k then 1 else 0) (i := (b - 69) % 16) (n := 16) (Nat.mod_lt _ (by decide))
  have this : (if u (69 + 16 * sg b + (b - 69) % 16) = k then 1 else 0) ≤ cntF u k (sg b) := this
  rw [hb, if_pos h] at this
  omega
theorem RND.Z {a y x : NSt} {T R : TRE} {tk : TKS} {PP : Nat → Nat} {ch ch' : List Nat} (h : RND a y x T R tk PP ch ch') {s : Nat} (hs : s < 128) : Zs x s ≤ if a.2 19 s ≠ 0 then 0 else Zs a s := by
  have hS := h.na.wk.lg.1.1.2.1
  by_cases c : dS x s ∧ 0 < gs x s
  · obtain ⟨b, b1, b2⟩ := gs_pos c.2
    obtain ⟨g1, g2, -⟩ := h.gb b2
    obtain ⟨k1, k2⟩ := h.gd b2 (by rw [b1]; exact c.1)
    rw [b1] at k2
    have hv : a.2 19 s = 0 := by
      refine Classical.byContradiction (fun q => g1 ⟨b2.1.1, by rw [b1]; exact q⟩)
    have hf : a.2 12 s = 0 := by
      refine Classical.byContradiction (fun q => g2 (Or.inl (by rw [b1]; exact q)))
    have hga : 0 < gs a s := by rw [← b1]; exact gs_of k1
    rw [if_neg (fun q => q hv)]
    unfold Zs
    rw [if_pos c, if_pos (show dS a s ∧ 0 < gs a s from ⟨k2, hga⟩)]
    have x9 : x.1 9 = y.1 9 := h.cm.1 9 (by decide) (by decide)
    have hd : x.2 11 s = y.2 11 s := by rw [h.cm.2.2.1 11 (by decide) (by decide) (by decide) (by decide)]
    by_cases e : s = sg (a.1 9)
    · rw [if_pos e]
      have := (h.lx.1.cnt16 hs).2
      split <;> omega
    · rw [if_neg e]
      have e' : ¬ s = sg (x.1 9) := fun q => by
        rw [x9] at q
        rcases h.ml.es9 with v | v
        · exact e (by rw [q, v])
        · rw [← q] at v; exact v hf
      rw [if_neg e', hd, (h.ml.nw.wk.lg.1.2.2.1 s hs).2, (h.na.wk.lg.1.2.2.1 s hs).2]
      unfold cntF
      refine sm_le (fun j hj => ?_)
      by_cases u : y.2 9 (69 + 16 * s + j) = 2
      · rw [if_pos u, if_pos (h.y2 (by rw [sg_of hj]; exact hf) (by rw [sg_of hj]; exact e) u)]
        exact Nat.le_refl _
      · rw [if_neg u]; exact Nat.zero_le _
  · unfold Zs
    rw [if_neg c]
    exact Nat.zero_le _
theorem RND.C {a y x : NSt} {T R : TRE} {tk : TKS} {PP : Nat → Nat} {ch ch' : List Nat} (h : RND a y x T R tk PP ch ch') {s : Nat} (hs : s < 128) (hc : Cs x s = 1) : a.2 19 s = 0 ∧ (Cs a s = 1 ∨ ∃ m, m < 2048 ∧ sg (a.2 6 m) = s ∧ 0 < mvn a m) := by
  have hS := h.na.wk.lg.1.1.2.1
  have c : ¬ dS x s ∧ 0 < gs x s := by
    refine Classical.byContradiction (fun q => ?_)
    unfold Cs at hc
    rw [if_neg q] at hc
    omega
  obtain ⟨b, b1, b2⟩ := gs_pos c.2
  obtain ⟨g1, g2, g3, g4, g5⟩ := h.gb b2
  rw [b1] at g4
  have hv : a.2 19 s = 0 := by
    refine Classical.byContradiction (fun q => g1 ⟨b2.1.1, by rw [b1]; exact q⟩)
  have hf : a.2 12 s = 0 := by
    refine Classical.byContradiction (fun q => g2 (Or.inl (by rw [b1]; exact q)))
  refine ⟨hv, ?_⟩
  rcases g5 with v | ⟨m, m1, m2, m3⟩
  · left
    have hga : 0 < gs a s := by rw [← b1]; exact gs_of v
    have x9 : x.1 9 = y.1 9 := h.cm.1 9 (by decide) (by decide)
    have hd : x.2 11 s = y.2 11 s := by rw [h.cm.2.2.1 11 (by decide) (by decide) (by decide) (by decide)]
    have hl := h.ml.nw.wk.lg
    obtain ⟨y10, y11⟩ := hl.1.2.2.1 s hs
    obtain ⟨a10, a11⟩ := h.na.wk.lg.1.2.2.1 s hs
    have hnda : ¬ dS a s := by
      intro q
      have hdat0 : a.2 11 s ≠ 0 → False := fun w => by
        rw [a11] at w
        obtain ⟨b', e1, e2, e3⟩ := cnt_ex w
        have hv' : ¬ vic a b' := fun q' => q'.2 (by rw [e1]; exact hv)
        have h3 := h.u2 hv' e3
        apply c.1
        left
        rw [hd, y11, ← e1]
        exact cnt_of e2 h3
      rcases q with w | w
      · exact hdat0 w
      · -- the end of the data as it was
        have hx9 : s ≠ sg (y.1 9) := fun q' => c.1 (Or.inr (by rw [x9]; exact q'))
        have hyd : y.2 11 s = 0 := by
          refine Classical.byContradiction (fun q' => c.1 (Or.inl (by rw [hd]; exact q')))
        have hy8 : s ≠ sg (y.1 8) := fun q' => by
          rcases h.ml.es8 with v8 | v8
          · exact h.na.wk.lg.2.2.2.1 (by rw [← v8, ← q', w])
          · rw [← q'] at v8; exact v8 hf
        have hyn : y.2 10 s = 0 := by
          refine Classical.byContradiction (fun q' => ?_)
          rw [y10] at q'
          obtain ⟨b', e1, e2, e3⟩ := cnt_ex q'
          have h8 : sg b' ≠ sg (a.1 8) := fun q8 => h.na.wk.lg.2.2.2.1 (by rw [← q8, e1, w])
          have h3 := h.y1 (by rw [e1]; exact hf) h8 e3
          have h4 := cnt_of (u := a.2 9) e2 h3
          rw [e1, ← a10, w] at h4
          exact h4 h.na.wk.lg.2.2.2.2.2
        have : deadB y s = true := by
          unfold deadB endB
          simp only [Bool.and_eq_true, decide_eq_true_eq, Bool.not_eq_true', decide_eq_false_iff_not]
          refine ⟨⟨hyn, hyd⟩, ?_⟩
          rintro (⟨-, -, q'⟩ | ⟨-, -, q'⟩)
          · exact hy8 q'
          · exact hx9 q'
        rw [this] at g4
        exact absurd g4 (by decide)
    unfold Cs
    rw [if_pos ⟨hnda, hga⟩]
  · right
    exact ⟨m, m1, by rw [← m2, b1], m3⟩
theorem RND.meas {a y x : NSt} {T R : TRE} {tk : TKS} {PP : Nat → Nat} {ch ch' : List Nat} (h : RND a y x T R tk PP ch ch') : Mz x + vcn a 2 + nVn a ≤ Mz a := by
  have hl := h.na.wk.lg
  have vz : ∀ s, s < 128 → a.2 19 s ≠ 0 → Zs a s = a.2 11 s ∧ (a.2 11 s = 0 → Cs a s = 1) := fun s hs q => by
    obtain ⟨k1, k2, k3, k4⟩ := can_gs hl (h.vb s hs q)
    unfold Zs Cs
    by_cases c : a.2 11 s = 0
    · have nd : ¬ dS a s := fun w => w.elim (fun v => v c) k3
      rw [if_neg (fun w => nd w.1), if_pos ⟨nd, k1⟩]
      exact ⟨c.symm, fun _ => rfl⟩
    · rw [if_pos ⟨Or.inl c, k1⟩, if_neg k3]
      exact ⟨rfl, fun w => absurd w c⟩
  have hv2 : vcn a 2 = sm (fun s => if a.2 19 s ≠ 0 then a.2 11 s else 0) 128 := by
    rw [vcn_s]
    exact sm_congr (fun s hs => by rw [(hl.1.2.2.1 s hs).2])
  have hZ : sm (Zs x) 128 + vcn a 2 ≤ sm (Zs a) 128 := by
    rw [hv2, ← sm_add]
    refine sm_le (fun s hs => ?_)
    have := h.Z hs
    by_cases c : a.2 19 s ≠ 0
    · rw [if_pos c] at this ⊢
      rw [(vz s hs c).1]
      omega
    · rw [if_neg c] at this ⊢
      omega
  have hq : sm (fun s => if Cs x s = 1 ∧ (Cs a s = 0 ∨ a.2 19 s ≠ 0) ∧ s < 128 then 1 else 0) 128 ≤ vcn a 2 := by
    refine Nat.le_trans (ex_cnt (P := fun s m => sg (a.2 6 m) = s ∧ 0 < mvn a m) (p := fun m => 0 < mvn a m) (M := 2048) (fun _ _ q => q.2) (fun b b' m q q' => by rw [← q.1, ← q'.1]) (fun s q => ?_)) (mv_cnt h.na)
    obtain ⟨w1, w2⟩ := h.C q.2.2 q.1
    rcases w2 with v | ⟨m, m1, m2, m3⟩
    · rcases q.2.1 with v' | v'
      · omega
      · exact absurd w1 v'
    · exact ⟨m, m1, m2, m3⟩
  have hC : sm (Cs x) 128 + nVn a ≤ sm (Cs a) 128 + vcn a 2 := by
    have e : sm (Cs x) 128 + nVn a ≤ sm (Cs a) 128 + sm (fun s => if Cs x s = 1 ∧ (Cs a s = 0 ∨ a.2 19 s ≠ 0) ∧ s < 128 then 1 else 0) 128 := by
      unfold nVn
      rw [← sm_add, ← sm_add]
      refine sm_le (fun s hs => ?_)
      have hle : Cs x s ≤ 1 := by unfold Cs; split <;> omega
      have hle2 : Cs a s ≤ 1 := by unfold Cs; split <;> omega
      by_cases c1 : Cs x s = 1
      · have w1 := (h.C hs c1).1
        rw [c1, if_neg (show ¬ (a.2 19 s ≠ 0 ∧ a.2 11 s = 0) from fun q => q.1 w1)]
        by_cases c2 : Cs a s = 0
        · rw [if_pos ⟨rfl, Or.inl c2, hs⟩]
          omega
        · omega
      · have c0 : Cs x s = 0 := by omega
        rw [c0]
        by_cases c2 : a.2 19 s ≠ 0 ∧ a.2 11 s = 0
        · rw [if_pos c2, (vz s hs c2.1).2 c2.2]
          omega
        · rw [if_neg c2]
          omega
    omega
  unfold Mz
  omega
theorem RND.one {a y x : NSt} {T R : TRE} {tk : TKS} {PP : Nat → Nat} {ch ch' : List Nat} (h : RND a y x T R tk PP ch ch') {s : Nat} (hs : s < 128) (hv : a.2 19 s ≠ 0) : 1 ≤ vcn a 2 + nVn a := by
  by_cases c : a.2 11 s = 0
  · have := sm_one (f := fun s => if a.2 19 s ≠ 0 ∧ a.2 11 s = 0 then 1 else 0) hs
    have this : (if a.2 19 s ≠ 0 ∧ a.2 11 s = 0 then 1 else 0) ≤ nVn a := this
    rw [if_pos ⟨hv, c⟩] at this
    omega
  · rw [vcn_s]
    have := sm_one (f := fun s => if a.2 19 s ≠ 0 then cntF (a.2 9) 2 s else 0) hs
    have this : (if a.2 19 s ≠ 0 then cntF (a.2 9) 2 s else 0) ≤ sm (fun s => if a.2 19 s ≠ 0 then cntF (a.2 9) 2 s else 0) 128 := this
    rw [if_pos hv, ← (h.na.wk.lg.1.2.2.1 s hs).2] at this
    omega
