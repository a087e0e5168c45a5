/-! a round of cleaning and its commit -/
abbrev dS (z : NSt) (s : Nat) : Prop := z.2 11 s ≠ 0 ∨ s = sg (z.1 9)
def Gd (z : NSt) : Nat := sm (fun b => if GB z b ∧ dS z (sg b) then 1 else 0) 2117
def RND (a y x : NSt) (T R : TRE) (tk : TKS) (PP : Nat → Nat) (ch ch' : List Nat) : Prop := (NW a T R tk PP ch) ∧ (MLP a y T R tk PP ch' 2048) ∧ (LG x) ∧ (CM y x) ∧ (∀ s, s < 128 → a.2 19 s ≠ 0 → canB a s)
theorem RND.na {a y x : NSt} {T R : TRE} {tk : TKS} {PP : Nat → Nat} {ch ch' : List Nat} (h9 : RND a y x T R tk PP ch ch') : NW a T R tk PP ch := h9.1
theorem RND.ml {a y x : NSt} {T R : TRE} {tk : TKS} {PP : Nat → Nat} {ch ch' : List Nat} (h9 : RND a y x T R tk PP ch ch') : MLP a y T R tk PP ch' 2048 := h9.2.1
theorem RND.lx {a y x : NSt} {T R : TRE} {tk : TKS} {PP : Nat → Nat} {ch ch' : List Nat} (h9 : RND a y x T R tk PP ch ch') : LG x := h9.2.2.1
theorem RND.cm {a y x : NSt} {T R : TRE} {tk : TKS} {PP : Nat → Nat} {ch ch' : List Nat} (h9 : RND a y x T R tk PP ch ch') : CM y x := h9.2.2.2.1
theorem RND.vb {a y x : NSt} {T R : TRE} {tk : TKS} {PP : Nat → Nat} {ch ch' : List Nat} (h9 : RND a y x T R tk PP ch ch') : ∀ s, s < 128 → a.2 19 s ≠ 0 → canB a s := h9.2.2.2.2
theorem RND.dead {a y x : NSt} {T R : TRE} {tk : TKS} {PP : Nat → Nat} {ch ch' : List Nat} (h : RND a y x T R tk PP ch ch') {s : Nat} (hs : s < 128) (hv : a.2 19 s ≠ 0) : deadB y s = true := by
  have hl := h.ml.nw.wk.lg
  have hz : ∀ k, k ≠ 0 → cntF (y.2 9) k s = 0 := fun k hk => by
    unfold cntF
    refine sm_zero (fun j hj => if_neg ?_)
    rw [h.ml.out ⟨by omega, by rw [sg_of hj]; exact hv⟩]
    exact Ne.symm hk
  obtain ⟨c1, c2⟩ := hl.1.2.2.1 s hs
  unfold deadB endB
  simp only [Bool.and_eq_true, decide_eq_true_eq, Bool.not_eq_true', decide_eq_false_iff_not]
  refine ⟨⟨by rw [c1, hz 1 (by decide)], by rw [c2, hz 2 (by decide)]⟩, ?_⟩
  rintro (⟨-, -, q⟩ | ⟨-, -, q⟩)
  · rw [q] at hv; exact hv h.ml.e8
  · rw [q] at hv; exact hv h.ml.e9
theorem RND.s6 {a y x : NSt} {T R : TRE} {tk : TKS} {PP : Nat → Nat} {ch ch' : List Nat} (h : RND a y x T R tk PP ch ch') : y.1 6 = a.1 6 ∧ x.1 6 = a.1 6 := by
  have e := h.ml.fr.1 6 (by decide) (by decide) (by decide) (by decide) (by decide) (by decide) (by decide) (by decide)
  exact ⟨e, by rw [h.cm.1 6 (by decide) (by decide), e]⟩
theorem RND.gb {a y x : NSt} {T R : TRE} {tk : TKS} {PP : Nat → Nat} {ch ch' : List Nat} (h : RND a y x T R tk PP ch ch') {b : Nat} (hg : GB x b) : ¬ vic a b ∧ ¬ AV a b ∧ y.2 9 b = 0 ∧ deadB y (sg b) = false ∧ (GB a b ∨ ∃ m, m < 2048 ∧ b = a.2 6 m ∧ 0 < mvn a m) := by
  obtain ⟨⟨m1, m2⟩, nav, u0⟩ := hg
  obtain ⟨s1, s2⟩ := h.s6
  rw [s2] at m2
  have hS := h.na.wk.lg.1.1.2.1
  have hs128 : sg b < a.1 6 := sg_lt' m1 m2
  have hy9 : y.2 9 b = 0 := by rw [← h.cm.2.2.1 9 (by decide) (by decide) (by decide) (by decide)]; exact u0
  have hnd : deadB y (sg b) = false := by
    cases q : deadB y (sg b)
    · rfl
    · exfalso
      apply nav
      left
      rw [h.cm.2.2.2.1, if_pos ⟨by rw [s1]; exact hs128, q⟩]
      decide
  have nav' : ¬ AV y b := fun q => nav (by
    unfold AV
    rw [h.cm.1 8 (by decide) (by decide), h.cm.1 9 (by decide) (by decide)]
    rcases q with v | v
    · left
      rw [h.cm.2.2.2.1]
      split
      · decide
      · exact v
    · exact Or.inr v)
  have hnv : ¬ vic a b := fun q => by
    rw [h.dead (by omega) q.2] at hnd
    exact absurd hnd (by decide)
  have hna : ¬ AV a b := fun q => by
    rcases h.ml.av b m1 q with v | v
    · exact (h.ml.u1 b (AV_un h.na.wk.lg m1 q) v).1 hy9
    · exact nav' v
  refine ⟨hnv, hna, hy9, hnd, ?_⟩
  by_cases c : a.2 9 b = 0
  · exact Or.inl ⟨⟨m1, m2⟩, hna, c⟩
  · right
    have hw : a.2 5 b ≠ 0 := by
      have := (h.na.wk.lg.1.2.1 b c).2.2.2
      omega
    rcases (h.ml.u0 b hw (by rw [hy9]; exact Ne.symm c)).2 with v | ⟨m, v1, v2, v3⟩
    · exact absurd v hnv
    · exact ⟨m, v1, v2, v3⟩
/-- data is put to data -/
theorem RND.dat {a y x : NSt} {T R : TRE} {tk : TKS} {PP : Nat → Nat} {ch ch' : List Nat} (h : RND a y x T R tk PP ch ch') {s : Nat} (hs : s < 128) (hf : a.2 12 s = 0) (hd : dS x s) : dS a s := by
  rcases hd with q | q
  · by_cases c : s = sg (a.1 9)
    · exact Or.inr c
    · left
      rw [h.cm.2.2.1 11 (by decide) (by decide) (by decide) (by decide), (h.ml.nw.wk.lg.1.2.2.1 s hs).2] at q
      unfold cntF at q
      obtain ⟨j, j1, j2⟩ := sm_ex (Nat.pos_of_ne_zero q)
      have j2 : y.2 9 (69 + 16 * s + j) = 2 := by
        refine Classical.byContradiction (fun w => j2 ?_)
        exact if_neg w
      have hsj : sg (69 + 16 * s + j) = s := sg_of j1
      have ha2 : a.2 9 (69 + 16 * s + j) = 2 := by
        by_cases w : a.2 5 (69 + 16 * s + j) = 0
        · exfalso
          rcases h.ml.w2 _ w j2 with v | v
          · rw [hsj] at v; exact c v
          · rw [hsj] at v; exact v hf
        · refine Classical.byContradiction (fun v => ?_)
          have := (h.ml.u0 _ w (by rw [j2]; exact Ne.symm v)).1
          omega
      rw [(h.na.wk.lg.1.2.2.1 s hs).2]
      intro v
      unfold cntF at v
      have := sm_z v j1
      have this : (if a.2 9 (69 + 16 * s + j) = 2 then 1 else 0) = 0 := this
      rw [if_pos ha2] at this
      omega
  · rw [h.cm.1 9 (by decide) (by decide)] at q
    rcases h.ml.es9 with v | v
    · exact Or.inr (by rw [q, v])
    · rw [← q] at v; exact absurd hf v
theorem RND.gd {a y x : NSt} {T R : TRE} {tk : TKS} {PP : Nat → Nat} {ch ch' : List Nat} (h : RND a y x T R tk PP ch ch') {b : Nat} (hg : GB x b) (hd : dS x (sg b)) : GB a b ∧ dS a (sg b) := by
  obtain ⟨g1, g2, g3, g4, g5⟩ := h.gb hg
  obtain ⟨s1, s2⟩ := h.s6
  have hS := h.na.wk.lg.1.1.2.1
  have m2 := hg.1.2
  rw [s2] at m2
  have hs : sg b < a.1 6 := sg_lt' hg.1.1 m2
  have hf : a.2 12 (sg b) = 0 := by
    refine Classical.byContradiction (fun q => g2 (Or.inl q))
  have hda := h.dat (by omega) hf hd
  refine ⟨?_, hda⟩
  rcases g5 with v | ⟨m, v1, v2, v3⟩
  · exact v
  · exfalso
    have hm0 : a.2 6 m ≠ 0 := fun q => by rw [(mvn_0 q).1] at v3; omega
    have hu := (h.na.wk.p1 hm0).2.2.2
    rw [← v2] at hu
    have hpos := h.na.wk.lg.cnt_pos (p := b) (by omega)
    rw [if_pos hu] at hpos
    rcases hda with w | w
    · have := h.na.wk.lg.1.2.2.2.2.2.1 (sg b) (by omega)
      omega
    · have := h.na.wk.lg.2.2.2.2.2
      rw [w] at hpos
      omega
theorem RND.gdle {a y x : NSt} {T R : TRE} {tk : TKS} {PP : Nat → Nat} {ch ch' : List Nat} (h : RND a y x T R tk PP ch ch') : Gd x ≤ Gd a := by
  unfold Gd
  refine sm_le (fun b _ => ?_)
  by_cases c : GB x b ∧ dS x (sg b)
  · rw [if_pos c, if_pos (h.gd c.1 c.2)]
    exact Nat.le_refl _
  · rw [if_neg c]; exact Nat.zero_le _
/-- how many numbers have blocks that leave -/
theorem mv_cnt {z : NSt} {T R : TRE} {tk : TKS} {PP : Nat → Nat} {ch : List Nat} (h : NW z T R tk PP ch) : sm (fun m => if 0 < mvn z m then 1 else 0) 2048 ≤ vcn z 2 := by
  refine Nat.le_trans (sm_le (fun m _ => ?_)) (mvn_sum h)
  split
  · assumption
  · exact Nat.zero_le _
theorem ex_cnt {P : Nat → Nat → Prop} [∀ b m, Decidable (P b m)] {p : Nat → Prop} [DecidablePred p] {B M : Nat} (h1 : ∀ b m, P b m → p m) (h2 : ∀ b b' m, P b m → P b' m → b = b') {q : Nat → Prop} [DecidablePred q] (hq : ∀ b, q b → ∃ m, m < M ∧ P b m) : sm (fun b => if q b then 1 else 0) B ≤ sm (fun m => if p m then 1 else 0) M := by
  have e1 : sm (fun b => if q b then 1 else 0) B ≤ sm (fun b => sm (fun m => if P b m then 1 else 0) M) B := sm_le (fun b _ => by
    by_cases c : q b
    · rw [if_pos c]
      obtain ⟨m, m1, m2⟩ := hq b c
      have := sm_one (f := fun m => if P b m then 1 else 0) m1
      have this : (if P b m then 1 else 0) ≤ sm (fun m => if P b m then 1 else 0) M := this
      rw [if_pos m2] at this
      exact this
    · rw [if_neg c]; exact Nat.zero_le _)
  rw [sm_swap] at e1
  refine Nat.le_trans e1 (sm_le (fun m _ => ?_))
  by_cases c : ∃ b, b < B ∧ P b m
  · obtain ⟨b, b1, b2⟩ := c
    rw [if_pos (h1 b m b2)]
    exact Nat.le_of_eq (sm_uniq (P := fun b => P b m) b1 b2 (fun b' _ hb => h2 b' b m hb b2))
  · have : sm (fun b => if P b m then 1 else 0) B = 0 := sm_zero (fun b hb => if_neg (fun v => c ⟨b, hb, v⟩))
    rw [this]; exact Nat.zero_le _
theorem RND.gle {a y x : NSt} {T R : TRE} {tk : TKS} {PP : Nat → Nat} {ch ch' : List Nat} (h : RND a y x T R tk PP ch ch') : Gz x ≤ sm (fun b => if GB a b ∧ ¬ vic a b then 1 else 0) 2117 + vcn a 2 := by
  have e2 : sm (fun b => if GB x b ∧ ¬ GB a b then 1 else 0) 2117 ≤ vcn a 2 := by
    refine Nat.le_trans (ex_cnt (P := fun b m => b = a.2 6 m ∧ 0 < mvn a m) (p := fun m => 0 < mvn a m) (M := 2048) (fun _ _ q => q.2) (fun b b' m q q' => by rw [q.1, q'.1]) (fun b q => ?_)) (mv_cnt h.na)
    rcases (h.gb q.1).2.2.2.2 with v | v
    · exact absurd v q.2
    · exact v
  have e1 : Gz x ≤ sm (fun b => (if GB a b ∧ ¬ vic a b then 1 else 0) + (if GB x b ∧ ¬ GB a b then 1 else 0)) 2117 := by
    unfold Gz
    refine sm_le (fun b _ => ?_)
    by_cases c : GB x b
    · rw [if_pos c]
      by_cases d : GB a b
      · rw [if_pos ⟨d, (h.gb c).1⟩]
        exact Nat.le_add_right _ _
      · rw [if_pos (show GB x b ∧ ¬ GB a b from ⟨c, d⟩)]
        exact Nat.le_add_left _ _
    · rw [if_neg c]; exact Nat.zero_le _
  rw [sm_add] at e1
  omega
def nV (a : NSt) : Nat := sm (fun s => if a.2 19 s ≠ 0 then 1 else 0) 128
theorem vic_all {a : NSt} (hl : LG a) (hv : ∀ s, s < 128 → a.2 19 s ≠ 0 → canB a s) : sm (fun b => if GB a b ∧ vic a b then 1 else 0) 2117 + vcn a 1 + vcn a 2 = 16 * nV a := by
  have hS := hl.1.1.2.1
  have e1 : sm (fun b => if vic a b then 1 else 0) 2117 = 16 * nV a := by
    rw [show (2117 : Nat) = 69 + 128 * 16 from rfl, sm_cut]
    have a1 : sm (fun b => if vic a b then 1 else 0) 69 = 0 := sm_zero (fun b hb => if_neg (fun q => by have := q.1; omega))
    have e2 := sm_flat (fun s (_ : Nat) => if a.2 19 s ≠ 0 then 1 else 0) (c := 16) (by decide) 128
    have e3 : sm (fun i => if vic a (69 + i) then 1 else 0) (128 * 16) = sm (fun i => if a.2 19 (i / 16) ≠ 0 then 1 else 0) (128 * 16) := sm_congr (fun i _ => by
      have hs : sg (69 + i) = i / 16 := by unfold sg; omega
      by_cases c : a.2 19 (i / 16) ≠ 0
      · rw [if_pos c, if_pos ⟨by omega, by rw [hs]; exact c⟩]
      · rw [if_neg c, if_neg (fun q => c (by rw [← hs]; exact q.2))])
    rw [a1, e3, ← e2, Nat.zero_add]
    unfold nV
    rw [← sm_mul]
    refine sm_congr (fun s _ => ?_)
    rw [sm_const]
  rw [← e1]
  unfold vcn
  rw [← sm_add, ← sm_add]
  refine sm_congr (fun b hb => ?_)
  by_cases c : vic a b
  · rw [if_pos c]
    have hcb := hv (sg b) (sg_lt c.1 hb) c.2
    have hmn : mnB a b := ⟨c.1, by
      have := hcb.1
      have := sg_dec c.1
      omega⟩
    have hnav : ¬ AV a b := by
      rintro (q | ⟨q, -⟩ | ⟨q, -⟩)
      · have c1 := cnt_free hl.1 q 1 (by decide)
        have c2 := cnt_free hl.1 q 2 (by decide)
        obtain ⟨d1, d2⟩ := hl.1.2.2.1 (sg b) (sg_lt c.1 hb)
        have := hcb.2.1
        omega
      · have h3 := of_decide_eq_false hcb.2.2.2
        have e8 := hl.end8
        exact h3 (Or.inl ⟨e8.1, e8.2.2.1, q⟩)
      · have h3 := of_decide_eq_false hcb.2.2.2
        have e9 := hl.end9
        exact h3 (Or.inr ⟨e9.1, e9.2.2.1, q⟩)
    have hu := hl.use2 b
    by_cases u0 : a.2 9 b = 0
    · rw [if_pos ⟨⟨hmn, hnav, u0⟩, c⟩, if_neg (fun q => by have := q.2; omega), if_neg (fun q => by have := q.2; omega)]
    · rw [if_neg (fun q => u0 q.1.2.2)]
      by_cases u1 : a.2 9 b = 1
      · rw [if_pos ⟨c, u1⟩, if_neg (fun q => by have := q.2; omega)]
      · rw [if_neg (fun q => u1 q.2), if_pos ⟨c, by omega⟩]
  · rw [if_neg c, if_neg (fun q => c q.2), if_neg (fun q => c q.1), if_neg (fun q => c q.1)]
theorem RND.up {a y x : NSt} {T R : TRE} {tk : TKS} {PP : Nat → Nat} {ch ch' : List Nat} (h : RND a y x T R tk PP ch ch') : Uz a + 16 * nV a ≤ Uz x + (vcn a 1 + 2 * vcn a 2) ∧ Uz x + un a + sm (fun b => if GB a b ∧ ¬ vic a b then 1 else 0) 2117 + vcn a 2 ≥ 16 * a.1 6 ∧ un x = un a := by
  have p1 := parts3 h.na.wk.lg
  have p2 := parts3 h.lx
  have hu : un x = un a := by
    rw [un_congr (h.cm.2.2.1 9 (by decide) (by decide) (by decide) (by decide)), h.ml.un']
  have hg := h.gle
  have hv := vic_all h.na.wk.lg h.vb
  have e : Gz a = sm (fun b => if GB a b ∧ ¬ vic a b then 1 else 0) 2117 + sm (fun b => if GB a b ∧ vic a b then 1 else 0) 2117 := by
    unfold Gz
    rw [← sm_add]
    refine sm_congr (fun b _ => ?_)
    by_cases c : GB a b
    · rw [if_pos c]
      by_cases d : vic a b
      · rw [if_neg (fun q => q.2 d), if_pos ⟨c, d⟩]
      · rw [if_pos ⟨c, d⟩, if_neg (fun q => d q.2)]
    · rw [if_neg c, if_neg (fun q => c q.1), if_neg (fun q => c q.1)]
  rw [h.s6.2] at p2
  exact ⟨by omega, by omega, hu⟩
