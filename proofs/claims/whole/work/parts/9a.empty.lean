/-! the cleaner goes through all numbers -/
theorem RR_keep {z x : NSt} {T R : TRE} {tk : TKS} {PP : Nat → Nat} {ch : List Nat} (h : NW z T R tk PP ch) (kw : KW z x) {m : Nat} (e : x.2 6 m = z.2 6 m) : RR (zV x) (x.2 6) m = RR (zV z) (z.2 6) m := by
  funext i
  unfold RR
  rw [e]
  by_cases c : z.2 6 m = 0
  · rw [if_pos c, if_pos c]
  · rw [if_neg c, if_neg c, (kw.1 _ (by rw [(h.wk.p1 c).1]; decide)).2]
def MLP (a x : NSt) (T R : TRE) (tk : TKS) (PP : Nat → Nat) (ch : List Nat) (n : Nat) : Prop := (NW x T R tk PP ch) ∧ (FR a x) ∧ (x.2 7 = a.2 7) ∧ (x.2 8 = a.2 8) ∧ (x.2 19 = a.2 19) ∧ (Uz x + sm (fun m => mvn a m + chN a m) n = Uz a) ∧ (∀ m, n ≤ m → x.2 6 m = a.2 6 m) ∧ (KW a x) ∧ (∀ m, (x.2 6 m = 0 ↔ a.2 6 m = 0)) ∧ (∀ m, m < n → ¬ vic a (x.2 6 m) ∧ ∀ i, ¬ vic a (RR (zV x) (x.2 6) m i)) ∧ (∀ b, a.2 5 b ≠ 0 → x.2 9 b ≠ a.2 9 b → x.2 9 b = 0 ∧ (vic a b ∨ ∃ m, m < n ∧ b = a.2 6 m ∧ 0 < mvn a m)) ∧ (∀ b, a.2 5 b = 0 → x.2 5 b ≠ 0 → x.2 9 b ≠ 0 ∧ ¬ vic a b) ∧ (∀ s, x.2 12 s ≠ 0 → a.2 12 s ≠ 0) ∧ (a.2 19 (sg (x.1 8)) = 0) ∧ (a.2 19 (sg (x.1 9)) = 0) ∧ (un x = un a) ∧ (AVK a x) ∧ (∀ b, a.2 5 b = 0 → x.2 9 b = 1 → sg b = sg (a.1 8) ∨ a.2 12 (sg b) ≠ 0) ∧ (∀ b, a.2 5 b = 0 → x.2 9 b = 2 → sg b = sg (a.1 9) ∨ a.2 12 (sg b) ≠ 0) ∧ (sg (x.1 8) = sg (a.1 8) ∨ a.2 12 (sg (x.1 8)) ≠ 0) ∧ (sg (x.1 9) = sg (a.1 9) ∨ a.2 12 (sg (x.1 9)) ≠ 0) ∧ (SLK T a x)
theorem MLP.nw {a x : NSt} {T R : TRE} {tk : TKS} {PP : Nat → Nat} {ch : List Nat} {n : Nat} (h9 : MLP a x T R tk PP ch n) : NW x T R tk PP ch := h9.1
theorem MLP.fr {a x : NSt} {T R : TRE} {tk : TKS} {PP : Nat → Nat} {ch : List Nat} {n : Nat} (h9 : MLP a x T R tk PP ch n) : FR a x := h9.2.1
theorem MLP.a7 {a x : NSt} {T R : TRE} {tk : TKS} {PP : Nat → Nat} {ch : List Nat} {n : Nat} (h9 : MLP a x T R tk PP ch n) : x.2 7 = a.2 7 := h9.2.2.1
theorem MLP.a8 {a x : NSt} {T R : TRE} {tk : TKS} {PP : Nat → Nat} {ch : List Nat} {n : Nat} (h9 : MLP a x T R tk PP ch n) : x.2 8 = a.2 8 := h9.2.2.2.1
theorem MLP.a19 {a x : NSt} {T R : TRE} {tk : TKS} {PP : Nat → Nat} {ch : List Nat} {n : Nat} (h9 : MLP a x T R tk PP ch n) : x.2 19 = a.2 19 := h9.2.2.2.2.1
theorem MLP.uz {a x : NSt} {T R : TRE} {tk : TKS} {PP : Nat → Nat} {ch : List Nat} {n : Nat} (h9 : MLP a x T R tk PP ch n) : Uz x + sm (fun m => mvn a m + chN a m) n = Uz a := h9.2.2.2.2.2.1
theorem MLP.p1 {a x : NSt} {T R : TRE} {tk : TKS} {PP : Nat → Nat} {ch : List Nat} {n : Nat} (h9 : MLP a x T R tk PP ch n) : ∀ m, n ≤ m → x.2 6 m = a.2 6 m := h9.2.2.2.2.2.2.1
theorem MLP.kw {a x : NSt} {T R : TRE} {tk : TKS} {PP : Nat → Nat} {ch : List Nat} {n : Nat} (h9 : MLP a x T R tk PP ch n) : KW a x := h9.2.2.2.2.2.2.2.1
theorem MLP.pz {a x : NSt} {T R : TRE} {tk : TKS} {PP : Nat → Nat} {ch : List Nat} {n : Nat} (h9 : MLP a x T R tk PP ch n) : ∀ m, (x.2 6 m = 0 ↔ a.2 6 m = 0) := h9.2.2.2.2.2.2.2.2.1
theorem MLP.v1 {a x : NSt} {T R : TRE} {tk : TKS} {PP : Nat → Nat} {ch : List Nat} {n : Nat} (h9 : MLP a x T R tk PP ch n) : ∀ m, m < n → ¬ vic a (x.2 6 m) ∧ ∀ i, ¬ vic a (RR (zV x) (x.2 6) m i) := h9.2.2.2.2.2.2.2.2.2.1
theorem MLP.u0 {a x : NSt} {T R : TRE} {tk : TKS} {PP : Nat → Nat} {ch : List Nat} {n : Nat} (h9 : MLP a x T R tk PP ch n) : ∀ b, a.2 5 b ≠ 0 → x.2 9 b ≠ a.2 9 b → x.2 9 b = 0 ∧ (vic a b ∨ ∃ m, m < n ∧ b = a.2 6 m ∧ 0 < mvn a m) := h9.2.2.2.2.2.2.2.2.2.2.1
theorem MLP.u1 {a x : NSt} {T R : TRE} {tk : TKS} {PP : Nat → Nat} {ch : List Nat} {n : Nat} (h9 : MLP a x T R tk PP ch n) : ∀ b, a.2 5 b = 0 → x.2 5 b ≠ 0 → x.2 9 b ≠ 0 ∧ ¬ vic a b := h9.2.2.2.2.2.2.2.2.2.2.2.1
theorem MLP.fz {a x : NSt} {T R : TRE} {tk : TKS} {PP : Nat → Nat} {ch : List Nat} {n : Nat} (h9 : MLP a x T R tk PP ch n) : ∀ s, x.2 12 s ≠ 0 → a.2 12 s ≠ 0 := h9.2.2.2.2.2.2.2.2.2.2.2.2.1
theorem MLP.e8 {a x : NSt} {T R : TRE} {tk : TKS} {PP : Nat → Nat} {ch : List Nat} {n : Nat} (h9 : MLP a x T R tk PP ch n) : a.2 19 (sg (x.1 8)) = 0 := h9.2.2.2.2.2.2.2.2.2.2.2.2.2.1
theorem MLP.e9 {a x : NSt} {T R : TRE} {tk : TKS} {PP : Nat → Nat} {ch : List Nat} {n : Nat} (h9 : MLP a x T R tk PP ch n) : a.2 19 (sg (x.1 9)) = 0 := h9.2.2.2.2.2.2.2.2.2.2.2.2.2.2.1
theorem MLP.un' {a x : NSt} {T R : TRE} {tk : TKS} {PP : Nat → Nat} {ch : List Nat} {n : Nat} (h9 : MLP a x T R tk PP ch n) : un x = un a := h9.2.2.2.2.2.2.2.2.2.2.2.2.2.2.2.1
theorem MLP.av {a x : NSt} {T R : TRE} {tk : TKS} {PP : Nat → Nat} {ch : List Nat} {n : Nat} (h9 : MLP a x T R tk PP ch n) : AVK a x := h9.2.2.2.2.2.2.2.2.2.2.2.2.2.2.2.2.1
theorem MLP.w1 {a x : NSt} {T R : TRE} {tk : TKS} {PP : Nat → Nat} {ch : List Nat} {n : Nat} (h9 : MLP a x T R tk PP ch n) : ∀ b, a.2 5 b = 0 → x.2 9 b = 1 → sg b = sg (a.1 8) ∨ a.2 12 (sg b) ≠ 0 := h9.2.2.2.2.2.2.2.2.2.2.2.2.2.2.2.2.2.1
theorem MLP.w2 {a x : NSt} {T R : TRE} {tk : TKS} {PP : Nat → Nat} {ch : List Nat} {n : Nat} (h9 : MLP a x T R tk PP ch n) : ∀ b, a.2 5 b = 0 → x.2 9 b = 2 → sg b = sg (a.1 9) ∨ a.2 12 (sg b) ≠ 0 := h9.2.2.2.2.2.2.2.2.2.2.2.2.2.2.2.2.2.2.1
theorem MLP.es8 {a x : NSt} {T R : TRE} {tk : TKS} {PP : Nat → Nat} {ch : List Nat} {n : Nat} (h9 : MLP a x T R tk PP ch n) : sg (x.1 8) = sg (a.1 8) ∨ a.2 12 (sg (x.1 8)) ≠ 0 := h9.2.2.2.2.2.2.2.2.2.2.2.2.2.2.2.2.2.2.2.1
theorem MLP.es9 {a x : NSt} {T R : TRE} {tk : TKS} {PP : Nat → Nat} {ch : List Nat} {n : Nat} (h9 : MLP a x T R tk PP ch n) : sg (x.1 9) = sg (a.1 9) ∨ a.2 12 (sg (x.1 9)) ≠ 0 := h9.2.2.2.2.2.2.2.2.2.2.2.2.2.2.2.2.2.2.2.2.1
theorem MLP.sl {a x : NSt} {T R : TRE} {tk : TKS} {PP : Nat → Nat} {ch : List Nat} {n : Nat} (h9 : MLP a x T R tk PP ch n) : SLK T a x := h9.2.2.2.2.2.2.2.2.2.2.2.2.2.2.2.2.2.2.2.2.2
theorem moveAll {FU : Nat} (hF : 140000 < FU) {a : NSt} {T R : TRE} {tk : TKS} {PP : Nat → Nat} {ch0 : List Nat} (h0 : NW a T R tk PP ch0) (hv1 : ∀ s, s < 128 → a.2 19 s ≤ 1) (hvf : ∀ s, a.2 12 s ≠ 0 → a.2 19 s = 0) (hse : a.1 11 < 2 ^ 32) (hU : 34 + sm (fun m => mvn a m + chN a m) 2048 ≤ Uz a) :
    ∀ (m n q : Nat) (x : NSt) (ch : List Nat), n + m = 2048 → m < q → 1 ≤ n → MLP a x T R tk PP ch n → Ev (Cle_emptySegments_b89 FU q (nI 1) (nI n) (up x)) fun r => ∃ y ch', r = (nI 1, up y) ∧ MLP a y T R tk PP ch' 2048 := by
  intro m
  induction m with
  | zero =>
    intro n q x ch e1 e2 e3 h
    obtain ⟨q, rfl⟩ : ∃ q9, q = q9 + 1 := ⟨q - 1, by omega⟩
    have e1 : n = 2048 := e1
    subst e1
    unfold Cle_emptySegments_b89
    rw [if_neg (by decide), if_pos (by decide), if_pos (Or.inr i11)]
    exact Ev.ret ⟨x, ch, rfl, h⟩
  | succ m ih =>
    intro n q x ch e1 e2 e3 h
    obtain ⟨q, rfl⟩ : ∃ q9, q = q9 + 1 := ⟨q - 1, by omega⟩
    unfold Cle_emptySegments_b89
    rw [if_neg (by decide), show (2048 : Int32) = nI 2048 from rfl, if_neg (nI_ge (by omega) (by decide)), nI_1]
    have hvx : ∀ b, vic x b ↔ vic a b := fun b => by unfold vic; rw [h.a19]
    have hP := h.p1 n (Nat.le_refl _)
    have hR := RR_keep h0 h.kw hP
    have hmv : mvn x n = mvn a n := by
      unfold mvn
      rw [hR]
      exact sm_congr (fun i _ => by
        by_cases c : vic a (RR (zV a) (a.2 6) n i)
        · rw [if_pos c, if_pos ((hvx _).mpr c)]
        · rw [if_neg c, if_neg (fun v => c ((hvx _).mp v))])
    have hch : chN x n = chN a n := by
      unfold chN
      rw [hmv, hP]
      by_cases c : vic a (a.2 6 n) ∨ 0 < mvn a n
      · rw [if_pos c, if_pos (c.elim (fun v => Or.inl ((hvx _).mpr v)) Or.inr)]
      · rw [if_neg c, if_neg (fun v => c (v.elim (fun w => Or.inl ((hvx _).mp w)) Or.inr))]
    have hsp : sm (fun m => mvn a m + chN a m) 2048 = sm (fun m => mvn a m + chN a m) n + (mvn a n + chN a n) + sm (fun i => mvn a (n + 1 + i) + chN a (n + 1 + i)) m := by
      rw [show (2048 : Nat) = (n + 1) + m by omega, sm_cut]
      rfl
    have huz := h.uz
    have hc1 : 0 < mvn a n → chN a n = 1 := fun q => by
      unfold chN
      rw [if_pos (Or.inr q)]
    have hx11 : x.1 11 = a.1 11 := h.fr.1 11 (by decide) (by decide) (by decide) (by decide) (by decide) (by decide) (by decide) (by decide)
    refine (moveNode_s hF h.nw (by rw [h.a19]; exact hv1) (fun s hs => by rw [h.a19]; exact hvf s (h.fz s hs)) (by rw [h.a19]; exact h.e8) (by rw [h.a19]; exact h.e9) (by omega) e3 (by omega) (by
      by_cases c : 0 < mvn a n
      · have := hc1 c; omega
      · omega)).bd ?_
    rintro _ ⟨y, ch', rfl, g⟩
    have hgu := g.uz
    have same : ∀ b, a.2 5 b = 0 → x.2 5 b ≠ 0 → y.2 9 b = x.2 9 b := fun b q1 c => by
      refine Classical.byContradiction (fun d => ?_)
      obtain ⟨v1, v2⟩ := h.u1 b q1 c
      rcases (g.u0 b c d).2 with v | ⟨v, -⟩
      · exact v2 ((hvx b).mp v)
      · rw [hP] at v
        by_cases e : a.2 6 n = 0
        · rw [e] at v
          rw [v] at v1
          exact v1 h.nw.wk.lg.u0
        · have := (h0.wk.p1 e).1
          rw [← v] at this
          omega
    refine ih (n + 1) q y ch' (by omega) (by omega) (by omega) ⟨g.nw, h.fr.trans g.fr, by rw [g.a7, h.a7], by rw [g.a8, h.a8], by rw [g.a19, h.a19], ?_, fun m' hm => ?_, h.kw.trans g.kw, fun m' => ?_, fun m' hm => ?_, fun b q1 q2 => ?_, fun b q1 q2 => ?_, fun s hs => h.fz s (g.fz s hs), by rw [← h.a19]; exact g.e8, by rw [← h.a19]; exact g.e9, by rw [g.un', h.un'], h.av.trans g.kw g.av, fun b q1 q2 => ?_, fun b q1 q2 => ?_, ?_, ?_, h.sl.trans g.sl⟩
    · show Uz y + (sm (fun m => mvn a m + chN a m) n + (mvn a n + chN a n)) = Uz a
      omega
    · rw [g.p' m' (by omega)]; exact h.p1 m' (by omega)
    · by_cases c : m' = n
      · rw [c, g.pn, hP]
      · rw [g.p' m' c]; exact h.pz m'
    · by_cases c : m' = n
      · rw [c]
        exact ⟨fun v => g.vn ((hvx _).mpr v), fun i v => g.vr i ((hvx _).mpr v)⟩
      · have := h.v1 m' (by omega)
        rw [g.p' m' c, RR_keep h.nw g.kw (g.p' m' c)]
        exact this
    · by_cases c : x.2 9 b = a.2 9 b
      · have q3 : y.2 9 b ≠ x.2 9 b := by rw [c]; exact q2
        obtain ⟨v1, v2⟩ := g.u0 b (h.kw.1 b q1).1 q3
        refine ⟨v1, ?_⟩
        rcases v2 with v | ⟨v, v'⟩
        · exact Or.inl ((hvx b).mp v)
        · exact Or.inr ⟨n, by omega, by rw [v, hP], by rw [← hmv]; exact v'⟩
      · obtain ⟨v1, v2⟩ := h.u0 b q1 c
        refine ⟨?_, ?_⟩
        · by_cases d : y.2 9 b = x.2 9 b
          · rw [d, v1]
          · exact (g.u0 b (h.kw.1 b q1).1 d).1
        · rcases v2 with v | ⟨k, k1, k2, k3⟩
          · exact Or.inl v
          · exact Or.inr ⟨k, by omega, k2, k3⟩
    · by_cases c : x.2 5 b = 0
      · obtain ⟨v1, v2⟩ := g.u1 b c q2
        exact ⟨v1, fun v => v2 ((hvx b).mpr v)⟩
      · obtain ⟨v1, v2⟩ := h.u1 b q1 c
        refine ⟨?_, v2⟩
        by_cases d : y.2 9 b = x.2 9 b
        · rw [d]; exact v1
        · exfalso
          rcases (g.u0 b c d).2 with v | ⟨v, -⟩
          · exact v2 ((hvx b).mp v)
          · rw [hP] at v
            by_cases e : a.2 6 n = 0
            · rw [e] at v
              have := h.nw.wk.lg.u0
              rw [v] at v1
              exact v1 this
            · have := (h0.wk.p1 e).1
              rw [← v] at this
              omega
    · by_cases c : x.2 5 b = 0
      · rcases g.w1 b c q2 with v | v
        · rw [v]; exact h.es8
        · exact Or.inr (h.fz _ v)
      · refine h.w1 b q1 ?_
        rw [← same b q1 c]; exact q2
    · by_cases c : x.2 5 b = 0
      · rcases g.w2 b c q2 with v | v
        · rw [v]; exact h.es9
        · exact Or.inr (h.fz _ v)
      · refine h.w2 b q1 ?_
        rw [← same b q1 c]; exact q2
    · rcases g.es8 with v | v
      · rw [v]; exact h.es8
      · exact Or.inr (h.fz _ v)
    · rcases g.es9 with v | v
      · rw [v]; exact h.es9
      · exact Or.inr (h.fz _ v)
/-! which segments -/
def cst (z : NSt) (s : Nat) : Nat := z.2 10 s + 2 * z.2 11 s
def cand (z : NSt) (s : Nat) : Prop := s < z.1 6 ∧ 0 < z.2 10 s + z.2 11 s ∧ z.2 10 s + z.2 11 s < 16 ∧ z.2 19 s = 0 ∧ endB z s = false
theorem Cle_cost_z (FU : Nat) {z : NSt} {s : Nat} (hs : s < 128) : Cle_cost FU (nI s) (up z) = some (nI (cst z s)) := by
  unfold Cle_cost cst
  rw [Log_nodesIn_z FU z hs, Option.bind_some, Log_dataIn_z FU z hs, Option.bind_some, show (2 : Int32) = nI 2 from rfl, pk_mul, nI_add]
theorem cheapest_b (FU : Nat) {z : NSt} (hl : LG z) (hv1 : ∀ s, s < 128 → z.2 19 s ≤ 1) {D : Nat} (hD : D < 2 ^ 20) : ∀ (m i q best : Nat) (f : Int32), i + m = z.1 6 → m < q → ((f = -1 ∧ best = D + 1 ∧ ∀ t, t < i → cand z t → D < cst z t) ∨ (∃ s, s < i ∧ f = nI s ∧ cand z s ∧ cst z s = best ∧ best ≤ D ∧ ∀ t, t < i → cand z t → cst z s ≤ cst z t)) → Ev (Cle_cheapest_b9 FU q f (nI best) (nI i) (up z)) fun r => (r = -1 ∧ ∀ t, cand z t → D < cst z t) ∨ (∃ s, r = nI s ∧ cand z s ∧ cst z s ≤ D ∧ ∀ t, cand z t → cst z s ≤ cst z t) := by
  have hS := hl.1.1.2.1
  intro m
  induction m with
  | zero =>
    intro i q best f e1 e2 h
    obtain ⟨q, rfl⟩ : ∃ q9, q = q9 + 1 := ⟨q - 1, by omega⟩
    unfold Cle_cheapest_b9 Log_segments
    rw [Option.bind_some, up1, if_pos (nI_le (by omega) (by omega))]
    refine Ev.ret ?_
    rcases h with ⟨h1, h2, h3⟩ | ⟨s, h1, h2, h3, h4, h5, h6⟩
    · exact Or.inl ⟨h1, fun t ht => h3 t (by have := ht.1; omega) ht⟩
    · exact Or.inr ⟨s, h2, h3, by omega, fun t ht => h6 t (by have := ht.1; omega) ht⟩
  | succ m ih =>
    intro i q best f e1 e2 h
    obtain ⟨q, rfl⟩ : ∃ q9, q = q9 + 1 := ⟨q - 1, by omega⟩
    have hi : i < 128 := by omega
    have hc16 := hl.1.cnt16 hi
    have he8 := hl.end8
    have he9 := hl.end9
    have hv := hv1 i hi
    have hb : best ≤ D + 1 := by
      rcases h with ⟨-, h2, -⟩ | ⟨s, -, -, -, -, h5, -⟩ <;> omega
    have skip : ¬ cand z i → Ev (Cle_cheapest_b80 FU (Cle_cheapest_b9 FU q) f (nI best) (nI i) (up z)) fun r => (r = -1 ∧ ∀ t, cand z t → D < cst z t) ∨ (∃ s, r = nI s ∧ cand z s ∧ cst z s ≤ D ∧ ∀ t, cand z t → cst z s ≤ cst z t) := by
      intro hn
      unfold Cle_cheapest_b80 Cle_cheapest_b81 Cle_cheapest_b108
      rw [if_pos rfl, nI_1]
      refine ih (i + 1) q best f (by omega) (by omega) ?_
      rcases h with ⟨h1, h2, h3⟩ | ⟨s, h1, h2, h3, h4, h5, h6⟩
      · refine Or.inl ⟨h1, h2, fun t ht ht2 => ?_⟩
        by_cases c : t = i
        · rw [c] at ht2; exact absurd ht2 hn
        · exact h3 t (by omega) ht2
      · refine Or.inr ⟨s, by omega, h2, h3, h4, h5, fun t ht ht2 => ?_⟩
        by_cases c : t = i
        · rw [c] at ht2; exact absurd ht2 hn
        · exact h6 t (by omega) ht2
    unfold Cle_cheapest_b9 Log_segments
    rw [Option.bind_some, up1, if_neg (nI_ge (by omega) (by omega)), Log_nodesIn_z FU z hi, Option.bind_some, Log_dataIn_z FU z hi, Option.bind_some, nI_add]
    by_cases c1 : z.2 10 i + z.2 11 i = 0
    · rw [c1, if_pos (show nI 0 ≤ (0 : Int32) by decide)]
      exact skip (fun q => by have := q.2.1; omega)
    · rw [if_neg (show ¬ nI (z.2 10 i + z.2 11 i) ≤ (0 : Int32) from nI_nle (by omega) (by omega)), show (16 : Int32) = nI 16 from rfl]
      by_cases c2 : 16 ≤ z.2 10 i + z.2 11 i
      · rw [if_pos (nI_le c2 (by omega))]
        exact skip (fun q => by have := q.2.2.1; omega)
      · rw [if_neg (nI_ge (by omega) (by decide)), rdA_z z 19 hi (by decide), Option.bind_some]
        by_cases c3 : z.2 19 i = 0
        · rw [c3, if_pos i00, Log_isEnd_z FU z (by omega) (by omega) (by omega), Option.bind_some]
          by_cases c4 : endB z i = true
          · rw [if_pos c4, if_neg (by decide)]
            exact skip (fun q => by have := q.2.2.2.2; rw [c4] at this; exact absurd this (by decide))
          · have c4' : endB z i = false := by
              cases h9 : endB z i
              · rfl
              · exact absurd h9 c4
            rw [if_neg c4, if_pos i00]
            have hcd : cand z i := ⟨by omega, by omega, by omega, c3, c4'⟩
            unfold Cle_cheapest_b81 Cle_cheapest_b108
            have hci : cst z i < 64 := by unfold cst; omega
            rw [if_neg (by decide), Cle_cost_z FU hi, Option.bind_some, Option.bind_some, nI_1]
            by_cases c5 : best ≤ cst z i
            · rw [if_pos (nI_le c5 (by omega))]
              refine ih (i + 1) q best f (by omega) (by omega) ?_
              rcases h with ⟨h1, h2, h3⟩ | ⟨s, h1, h2, h3, h4, h5, h6⟩
              · refine Or.inl ⟨h1, h2, fun t ht ht2 => ?_⟩
                by_cases c : t = i
                · rw [c]; omega
                · exact h3 t (by omega) ht2
              · refine Or.inr ⟨s, by omega, h2, h3, h4, h5, fun t ht ht2 => ?_⟩
                by_cases c : t = i
                · rw [c]; omega
                · exact h6 t (by omega) ht2
            · rw [if_neg (nI_ge (by omega) (by omega))]
              refine ih (i + 1) q (cst z i) (nI i) (by omega) (by omega) (Or.inr ⟨i, by omega, rfl, hcd, rfl, by omega, fun t ht ht2 => ?_⟩)
              by_cases c : t = i
              · rw [c]; exact Nat.le_refl _
              · rcases h with ⟨h1, h2, h3⟩ | ⟨s, h1, h2, h3, h4, h5, h6⟩
                · have := h3 t (by omega) ht2; omega
                · have := h6 t (by omega) ht2; omega
        · rw [if_neg (ne0_I (by omega) c3)]
          exact skip (fun q => c3 q.2.2.2.1)
