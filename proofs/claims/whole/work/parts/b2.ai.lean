/-! what the calls keep of the state -/
theorem sm_pt (x : Nat) : sm (fun j => if 1 + j = x then 1 else 0) 250 ≤ 1 := by
  have := cnt_le (A := 250) (B := 1) (f := fun _ => 0) (p := fun j => 1 + j = x) (q := fun _ => True) (fun i _ _ => ⟨by omega, trivial⟩) (fun i i' _ _ a b _ => by
    have a : 1 + i = x := a
    have b : 1 + i' = x := b
    omega)
  exact Nat.le_trans this (by
    show 0 + (if True then 1 else 0) ≤ 1
    rw [if_pos trivial]
    omega)
theorem sm_rng {a b : Nat} (h : a ≤ b) (N : Nat) : sm (fun k => if a ≤ k ∧ k ≤ b then 1 else 0) N ≤ b - a + 1 := by
  have := cnt_le (A := N) (B := b - a + 1) (f := fun k => k - a) (p := fun k => a ≤ k ∧ k ≤ b) (q := fun _ => True) (fun i _ q => ⟨by omega, trivial⟩) (fun i i' _ _ a b e => by
    have e : i - _ = i' - _ := e
    omega)
  rw [sm_congr (f := fun _ => if True then 1 else 0) (g := fun _ => 1) (fun _ _ => if_pos trivial), sm_const] at this
  omega
theorem auT_put (T : TRE) {d n v : Nat} (hn : n < NNM) (i : Nat) : auT (T.put d n v) i ≤ auT T i + if i = d then 1 else 0 := by
  unfold auT
  rw [put_kd]
  by_cases c : i = d
  · rw [c, if_pos rfl]
    by_cases k : T.kd d = 2
    · rw [if_pos k, if_pos k, put_es]
      have := nmc_up (e := T.ent d) (v := v) hn
      have : (if v = 0 then 0 else 1) ≤ 1 := by split <;> omega
      omega
    · rw [if_neg k, if_neg k]
      exact Nat.le_add_right _ _
  · rw [if_neg c, put_e2 _ c]
    exact Nat.le_refl _
theorem auF_0 {f : FV} (h : ∀ k, k < 412 → f.has k = 0) : auF f = 1 := by
  unfold auF
  have n0 : ∀ j, j < 7 → ndH f.has j = 0 := fun j hj => by
    unfold ndH
    exact if_pos (sm_zero (fun i hi => if_pos (h _ (by omega))))
  rw [sm_zero (fun k hk => if_pos (h k hk)), sm_zero n0, if_pos (sm_zero (fun j hj => n0 _ (by omega)))]
theorem auT_new (T : TRE) {id k lp : Nat} (h0 : T.kd id = 0) (hk : k = 1 ∨ k = 2) (i : Nat) : auT (newT T id k lp) i ≤ auT T i + if i = id then 1 else 0 := by
  unfold auT
  by_cases c : i = id
  · rw [c, if_pos rfl, h0, if_neg (show ¬ (0 : Nat) = 2 by decide), if_pos (show (0 : Nat) = 0 from rfl)]
    have ek : (newT T id k lp).kd id = k := va_up_self _ _ _
    have ee : (newT T id k lp).ent id = fun _ => 0 := va_up_self _ _ _
    have ef : (newT T id k lp).fil id = fv0 := va_up_self _ _ _
    rw [ek, ee, ef]
    rcases hk with rfl | rfl
    · rw [if_neg (by decide), if_neg (by decide), auF_0 (fun k _ => rfl)]
      exact Nat.le_refl _
    · rw [if_pos rfl, nmc_0 (fun _ => rfl)]
      exact Nat.le_refl _
  · have ek : (newT T id k lp).kd i = T.kd i := va_up_ne _ _ c
    have ee : (newT T id k lp).ent i = T.ent i := va_up_ne _ _ c
    have ef : (newT T id k lp).fil i = T.fil i := va_up_ne _ _ c
    rw [ek, ee, ef, if_neg c]
    exact Nat.le_refl _
theorem loose_fil {T : TRE} {x : Nat} : (T.loose x).fil = T.fil := by
  unfold TRE.loose
  split <;> rfl
theorem lose_fil {T : TRE} {x : Nat} : (T.lose x).fil = T.fil := by
  unfold TRE.lose
  split
  · rfl
  · exact loose_fil
theorem auT_lose (T : TRE) (x i : Nat) : auT (T.lose x) i ≤ auT T i := by
  by_cases c : i = x
  · have key : (T.lose x).kd x = 0 ∨ (T.lose x).kd x = T.kd x := by
      unfold TRE.lose TRE.loose
      by_cases k : T.kd x = 2
      · rw [if_pos k]; exact Or.inl (va_up_self _ _ _)
      · rw [if_neg k]
        by_cases l : 1 < T.lk x
        · rw [if_pos l]; exact Or.inr rfl
        · rw [if_neg l]; exact Or.inl (va_up_self _ _ _)
    rw [c]
    rcases key with k | k
    · unfold auT
      rw [k, if_neg (by decide), if_pos rfl]
      exact Nat.zero_le _
    · unfold auT
      rw [k, lose_ent, lose_fil]
      exact Nat.le_refl _
  · unfold auT
    rw [lose_kd c, lose_ent, lose_fil]
    exact Nat.le_refl _
theorem moved_fil {T : TRE} {f d : Nat} : (T.moved f d).fil = T.fil := by
  unfold TRE.moved
  split <;> rfl
theorem auT_moved (T : TRE) (x d i : Nat) : auT (T.moved x d) i = auT T i := by
  unfold auT
  rw [moved_kd, moved_ent, moved_fil]
theorem auT_fil (T : TRE) {f c : Nat} {F : FV} (hF : auF F ≤ auF (T.fil f) + c) (i : Nat) : auT (T.wFil (va_up T.fil f F)) i ≤ auT T i + if i = f then c else 0 := by
  unfold auT
  rw [fil_kd]
  have ef : (T.wFil (va_up T.fil f F)).fil i = va_up T.fil f F i := rfl
  have ee : (T.wFil (va_up T.fil f F)).ent = T.ent := rfl
  rw [ef, ee]
  by_cases q : i = f
  · rw [q, va_up_self, if_pos rfl]
    by_cases k : T.kd f = 2
    · rw [if_pos k, if_pos k]; exact Nat.le_add_right _ _
    · rw [if_neg k, if_neg k]
      by_cases k0 : T.kd f = 0
      · rw [if_pos k0, if_pos k0]; exact Nat.zero_le _
      · rw [if_neg k0, if_neg k0]; exact hF
  · rw [va_up_ne _ _ q, if_neg q]
    exact Nat.le_refl _
/-- files: how many blocks more -/
theorem ndH_mono {h h' : Nat → Nat} {j : Nat} (hj : j < 7) (hm : ∀ k, k < 412 → h' k ≠ 0 → h k ≠ 0) : ndH h' j ≤ ndH h j := by
  unfold ndH
  by_cases c : sm (fun i => if h (20 + 56 * j + i) = 0 then 0 else 1) 56 = 0
  · rw [if_pos c, if_pos (sm_zero (fun i hi => if_pos (Classical.byContradiction (fun w => by
      have := sm_z c hi
      rw [if_neg (hm _ (by omega) w)] at this
      omega))))]
    exact Nat.le_refl _
  · rw [if_neg c]
    split <;> omega
theorem auF_mono {f g : FV} (hm : ∀ k, k < 412 → g.has k ≠ 0 → f.has k ≠ 0) : auF g ≤ auF f := by
  unfold auF
  have a1 := sm_le (f := fun k => if g.has k = 0 then 0 else 1) (g := fun k => if f.has k = 0 then 0 else 1) (n := 412) (fun k hk => by
    by_cases c : g.has k = 0
    · rw [if_pos c]; exact Nat.zero_le _
    · rw [if_neg c, if_neg (hm k hk c)]
      exact Nat.le_refl _)
  have a2 := sm_le (f := ndH g.has) (g := ndH f.has) (n := 7) (fun j hj => ndH_mono hj hm)
  have a3 := sm_le (f := fun j => ndH g.has (2 + j)) (g := fun j => ndH f.has (2 + j)) (n := 5) (fun j hj => ndH_mono (by omega) hm)
  have a4 : (if sm (fun j => ndH g.has (2 + j)) 5 = 0 then 0 else 1) ≤ (if sm (fun j => ndH f.has (2 + j)) 5 = 0 then 0 else 1) := by
    by_cases c : sm (fun j => ndH f.has (2 + j)) 5 = 0
    · rw [if_pos c, if_pos (by omega)]
      exact Nat.le_refl _
    · rw [if_neg c]
      split <;> omega
  omega
theorem auF_tr {f : FV} (h : FVK f) (s : Nat) : auF (trF f s) ≤ auF f + 6 := by
  unfold trF
  by_cases c : f.sm = 1
  · rw [if_pos c]
    by_cases d : s ≤ 96
    · rw [if_pos d]
      exact Nat.le_trans (auF_mono (f := f) (fun k _ q => q)) (Nat.le_add_right _ _)
    · rw [if_neg d]
      have a0 : auF f = 1 := auF_0 (h.small c).2
      unfold auF
      have a1 : sm (fun k => if (FV.of s 0 (fun k => if k = 0 then 1 else 0) f.byt).has k = 0 then 0 else 1) 412 ≤ 1 := by
        have := sm_rng (a := 0) (b := 0) (Nat.le_refl _) 412
        refine Nat.le_trans (sm_le (fun k _ => ?_)) this
        have eh : (FV.of s 0 (fun k => if k = 0 then 1 else 0) f.byt).has k = if k = 0 then 1 else 0 := rfl
        rw [eh]
        by_cases q : k = 0
        · rw [if_pos q, if_neg (show ¬ (1 : Nat) = 0 by decide), if_pos (show 0 ≤ k ∧ k ≤ 0 by omega)]; exact Nat.le_refl _
        · rw [if_neg q, if_pos rfl]; exact Nat.zero_le _
      have a2 : ∀ j, ndH (FV.of s 0 (fun k => if k = 0 then 1 else 0) f.byt).has j = 0 := fun j => by
        unfold ndH
        refine if_pos (sm_zero (fun i _ => if_pos ?_))
        show (if 20 + 56 * j + i = 0 then 1 else 0) = 0
        rw [if_neg (by omega)]
      rw [sm_zero (f := ndH (FV.of s 0 (fun k => if k = 0 then 1 else 0) f.byt).has) (fun j _ => a2 j), if_pos (sm_zero (fun j _ => a2 _))]
      unfold auF at a0
      omega
  · rw [if_neg c]
    by_cases d : s < f.sz
    · rw [if_pos d]
      refine Nat.le_trans (auF_mono (f := f) (fun k _ q => ?_)) (Nat.le_add_right _ _)
      have q : (if 256 * k < s then f.has k else 0) ≠ 0 := q
      by_cases e : 256 * k < s
      · rw [if_pos e] at q; exact q
      · rw [if_neg e] at q; exact absurd rfl q
    · rw [if_neg d]
      exact Nat.le_trans (auF_mono (f := f) (fun k _ q => q)) (Nat.le_add_right _ _)
theorem nd2 {a b : Nat} (h : b ≤ a + 8) : sm (fun j => if 20 + 56 * j ≤ b ∧ a ≤ 75 + 56 * j then 1 else 0) 7 ≤ 2 := by
  have := cnt_le (A := 7) (B := 2) (f := fun j => j - (a - 20) / 56) (p := fun j => 20 + 56 * j ≤ b ∧ a ≤ 75 + 56 * j) (q := fun _ => True) (fun i _ q => ⟨by omega, trivial⟩) (fun i i' _ _ p q e => by
    have e : i - (a - 20) / 56 = i' - (a - 20) / 56 := e
    omega)
  exact Nat.le_trans this (by
    show 0 + (if True then 1 else 0) + (if True then 1 else 0) ≤ 2
    rw [if_pos trivial]
    omega)
theorem auF_wr {f : FV} {at' n : Nat} {tp : Nat → Nat} (hn : 1 ≤ n) (hn2 : n ≤ 2000) : auF (wrF f at' n tp) ≤ auF f + ((at' + n - 1) / 256 - at' / 256 + 7) := by
  obtain ⟨a, ea⟩ : ∃ a, a = at' / 256 := ⟨_, rfl⟩
  obtain ⟨b, eb⟩ : ∃ b, b = (at' + n - 1) / 256 := ⟨_, rfl⟩
  have hab : a ≤ b := by omega
  have hba : b ≤ a + 8 := by omega
  have hh : ∀ k, (wrF f at' n tp).has k = if f.sm = 1 ∧ at' + n ≤ 96 then 0 else if (a ≤ k ∧ k ≤ b) ∨ (f.sm = 1 ∧ k = 0) then 1 else f.has k := fun k => by rw [ea, eb]; rfl
  rw [← ea, ← eb]
  have h1 : ∀ k, (wrF f at' n tp).has k ≠ 0 → (a ≤ k ∧ k ≤ b) ∨ k = 0 ∨ f.has k ≠ 0 := fun k q => by
    rw [hh] at q
    by_cases c : f.sm = 1 ∧ at' + n ≤ 96
    · rw [if_pos c] at q; exact absurd rfl q
    · rw [if_neg c] at q
      by_cases d : (a ≤ k ∧ k ≤ b) ∨ (f.sm = 1 ∧ k = 0)
      · rcases d with d | d
        · exact Or.inl d
        · exact Or.inr (Or.inl d.2)
      · rw [if_neg d] at q; exact Or.inr (Or.inr q)
  have s1 : sm (fun k => if (wrF f at' n tp).has k = 0 then 0 else 1) 412 ≤ sm (fun k => if f.has k = 0 then 0 else 1) 412 + (b - a + 1) + 1 := by
    have r1 := sm_rng hab 412
    have r2 := sm_rng (a := 0) (b := 0) (Nat.le_refl _) 412
    have := sm_le (f := fun k => if (wrF f at' n tp).has k = 0 then 0 else 1) (g := fun k => ((if f.has k = 0 then 0 else 1) + (if a ≤ k ∧ k ≤ b then 1 else 0)) + (if 0 ≤ k ∧ k ≤ 0 then 1 else 0)) (n := 412) (fun k _ => by
      by_cases c : (wrF f at' n tp).has k = 0
      · rw [if_pos c]; exact Nat.zero_le _
      · rw [if_neg c]
        rcases h1 k c with q | q | q
        · rw [if_pos q]; omega
        · rw [if_pos (show 0 ≤ k ∧ k ≤ 0 by omega)]; omega
        · rw [if_neg q]; omega)
    rw [sm_add, sm_add] at this
    omega
  have s2 : sm (ndH (wrF f at' n tp).has) 7 ≤ sm (ndH f.has) 7 + 2 := by
    have r := nd2 hba
    have := sm_le (f := ndH (wrF f at' n tp).has) (g := fun j => ndH f.has j + (if 20 + 56 * j ≤ b ∧ a ≤ 75 + 56 * j then 1 else 0)) (n := 7) (fun j hj => by
      by_cases c : 20 + 56 * j ≤ b ∧ a ≤ 75 + 56 * j
      · rw [if_pos c]
        have : ndH (wrF f at' n tp).has j ≤ 1 := by
          unfold ndH
          split <;> omega
        omega
      · rw [if_neg c]
        unfold ndH
        by_cases e : sm (fun i => if f.has (20 + 56 * j + i) = 0 then 0 else 1) 56 = 0
        · rw [if_pos e, if_pos (sm_zero (fun i hi => if_pos (Classical.byContradiction (fun w => by
            rcases h1 _ w with q | q | q
            · omega
            · omega
            · have := sm_z e hi
              rw [if_neg q] at this
              omega))))]
          omega
        · rw [if_neg e]
          split <;> omega)
    rw [sm_add] at this
    omega
  have s3 : (if sm (fun j => ndH (wrF f at' n tp).has (2 + j)) 5 = 0 then 0 else 1) ≤ 1 := by split <;> omega
  unfold auF
  omega
/-- behind a call's own work -/
theorem AI.act {B : AB} {n : Nat} (h : AI B n) (hn : 1 ≤ n) {T' : TRE} {rn' : Nat → Bool} (tw : TWF T') (fk : ∀ f, T'.kd f = 1 → rn' f = false → B.O.kd f = 1 ∧ B.O.lk f = T'.lk f) {add : Nat → Nat} (ha : ∀ i, auT T' i ≤ auT B.T i + add i) (hs : sm (fun j => add (1 + j)) 250 ≤ n) : AI ((B.w_T T').w_rn rn') 0 := by
  obtain ⟨m, m1, m2, m3⟩ := h.mx
  have hft : B.us + B.fr ≤ B.rm := by
    rcases h.ft with q | q
    · exact q
    · omega
  have hsum : sm (fun j => (fun i => m i + add i) (1 + j)) 250 = sm (fun j => m (1 + j)) 250 + sm (fun j => add (1 + j)) 250 := sm_add
  refine ⟨tw, h.ow, h.sk, fk, h.rb, Or.inl hft, fun i => m i + add i, fun i => ⟨?_, ?_, ?_⟩, ?_, ?_⟩
  · have := ha i
    have := (m1 i).1
    show auT T' i ≤ m i + add i
    omega
  · have := (m1 i).2.1
    show auT B.O i ≤ m i + add i
    omega
  · have := (m1 i).2.2
    show auT B.R i ≤ m i + add i
    omega
  · show sm (fun j => (fun i => m i + add i) (1 + j)) 250 + 0 ≤ B.us + B.fr
    omega
  · show sm (fun j => (fun i => m i + add i) (1 + j)) 250 + 0 ≤ B.rm
    omega
theorem AI.wk0 {A : AB} {s : Nat} (h : AI A s) : AI A 0 := by
  obtain ⟨m, m1, m2, m3⟩ := h.mx
  exact ⟨h.tw, h.ow, h.sk, h.fk, h.rb, (by
    rcases h.ft with q | q
    · exact Or.inl q
    · exact Or.inr ⟨q.1, rfl⟩), m, m1, by omega, by omega⟩
theorem ai_rsv {A : AB} {n : Nat} {k : AB → ANS} (h : AI A 0) (hT : TFA A.T) (hk : rsvC n A = 0 → AI (rsvB n A) n → (rsvB n A).T = A.T → AI (k (rsvB n A)).2.2 0) : AI (rsvA n A k).2.2 0 := by
  unfold rsvA
  by_cases c : rsvC n A = 0
  · rw [if_pos c]
    exact hk c ((h.rsv hT n).1 c) (rsvB_T n A)
  · rw [if_neg c]
    exact (h.rsv hT n).2 c
theorem ai_pwr {A : AB} {k : ANS} (h : AI A 0) (hk : A.dv = 2 → AI k.2.2 0) : AI (pwrA A k).2.2 0 := by
  unfold pwrA
  by_cases c : A.dv = 2
  · rw [if_pos c]; exact hk c
  · rw [if_neg c]; exact h
theorem tpNL {A : AB} (ht : A.tl ≤ 2060) (htp : ∀ i, i < 2060 → A.tp i < 256) {at' n : Nat} (h : nmOk A.tp A.tl at' n = true) : NL (nmN A.tp at' n) n := NL_of h (fun i hi => htp i (by omega))
theorem ai_make {A : AB} (h : AI A 0) (hT : A.dv = 2 → TFA A.T) (ht : A.tl ≤ 2060) (htp : ∀ i, i < 2060 → A.tp i < 256) {k d n : Nat} (hk : k = 1 ∨ k = 2) : AI (makeA k d n A).2.2 0 := by
  unfold makeA
  refine ai_pwr h (fun c => ?_)
  have hT := hT c
  by_cases q : nmOk A.tp A.tl 0 n = true ∧ A.T.kd d = 2
  · rw [if_neg (not_not_intro q)]
    by_cases e : A.T.ent d (nmN A.tp 0 n) ≠ 0 ∨ 48 ≤ nmc (A.T.ent d) ∨ A.lw = 0
    · rw [if_pos e]; exact h.tl 0
    · rw [if_neg e]
      refine ai_rsv (h.tl 0) hT (fun _ b1 b2 => ?_)
      have b2 : (rsvB 4 (A.w_tl 0)).T = A.T := b2
      have hlw : (rsvB 4 (A.w_tl 0)).lw ≠ 0 := lw_rsv 4 (show (A.w_tl 0).lw ≠ 0 from fun w => e (Or.inr (Or.inr w)))
      obtain ⟨B, eB⟩ : ∃ B, B = rsvB 4 (A.w_tl 0) := ⟨_, rfl⟩
      rw [← eB] at b1 b2 hlw ⊢
      obtain ⟨l1, l2, l3, l4⟩ := lw_ok hlw
      have hnl := tpNL ht htp q.1
      have hn := NL_lt hnl
      rw [← b2] at hT q e
      have hdl : d ≠ B.lw := fun w => by
        have := q.2
        rw [w, l3] at this
        omega
      have kdn : ∀ f, f ≠ B.lw → ((newT B.T B.lw k (if k = 2 then d else 1)).put d (nmN A.tp 0 n) B.lw).kd f = B.T.kd f := fun f hf => va_up_ne _ _ hf
      have lkn : ∀ f, f ≠ B.lw → ((newT B.T B.lw k (if k = 2 then d else 1)).put d (nmN A.tp 0 n) B.lw).lk f = B.T.lk f := fun f hf => va_up_ne _ _ hf
      refine b1.act (by decide) (twf_new b1.tw hT l1 l2 l3 hk q.2 hnl (Classical.byContradiction (fun w => e (Or.inl w))) (fun w => by rw [if_pos w]) (fun w => by rw [if_neg (by omega)])) (fun f hf hr => ?_) (add := fun i => (if i = B.lw then 1 else 0) + (if i = d then 1 else 0)) (fun i => ?_) ?_
      · have hr : va_up B.rn B.lw true f = false := hr
        by_cases c : f = B.lw
        · rw [c, va_up_self] at hr; cases hr
        · rw [va_up_ne _ _ c] at hr
          have hf : ((newT B.T B.lw k (if k = 2 then d else 1)).put d (nmN A.tp 0 n) B.lw).kd f = 1 := hf
          rw [kdn f c] at hf
          rw [show ((newT B.T B.lw k (if k = 2 then d else 1)).put d (nmN A.tp 0 n) B.lw).lk f = B.T.lk f from lkn f c]
          exact b1.fk f hf hr
      · have a1 := auT_put (newT B.T B.lw k (if k = 2 then d else 1)) (d := d) (v := B.lw) hn i
        have a2 := auT_new B.T (lp := if k = 2 then d else 1) l3 hk i
        omega
      · have s1 := sm_pt B.lw
        have s2 := sm_pt d
        rw [sm_add]
        omega
  · rw [if_pos q]; exact h.tl 0
theorem ai_link {A : AB} (h : AI A 0) (hT : A.dv = 2 → TFA A.T) (ht : A.tl ≤ 2060) (htp : ∀ i, i < 2060 → A.tp i < 256) {f d n : Nat} : AI (linkA f d n A).2.2 0 := by
  unfold linkA
  refine ai_pwr h (fun c => ?_)
  have hT := hT c
  by_cases q : nmOk A.tp A.tl 0 n = true ∧ A.T.kd d = 2 ∧ A.T.kd f = 1
  · rw [if_neg (not_not_intro q)]
    by_cases e : A.T.ent d (nmN A.tp 0 n) ≠ 0 ∨ 48 ≤ nmc (A.T.ent d)
    · rw [if_pos e]; exact h.tl 0
    · rw [if_neg e]
      refine ai_rsv (h.tl 0) hT (fun _ b1 b2 => ?_)
      have b2 : (rsvB 4 (A.w_tl 0)).T = A.T := b2
      obtain ⟨B, eB⟩ : ∃ B, B = rsvB 4 (A.w_tl 0) := ⟨_, rfl⟩
      rw [← eB] at b1 b2 ⊢
      have hnl := tpNL ht htp q.1
      have hn := NL_lt hnl
      rw [← b2] at hT q e
      refine b1.act (by decide) (twf_link b1.tw hT q.2.2 q.2.1 hnl (Classical.byContradiction (fun w => e (Or.inl w)))) (fun g hg hr => ?_) (add := fun i => if i = d then 1 else 0) (fun i => ?_) ?_
      · have hr : va_up B.rn f true g = false := hr
        have hg : B.T.kd g = 1 := hg
        by_cases c : g = f
        · rw [c, va_up_self] at hr; cases hr
        · rw [va_up_ne _ _ c] at hr
          have : va_up B.T.lk f (B.T.lk f + 1) g = B.T.lk g := va_up_ne _ _ c
          rw [show ((B.T.put d (nmN A.tp 0 n) f).wLk (va_up B.T.lk f (B.T.lk f + 1))).lk g = B.T.lk g from this]
          exact b1.fk g hg hr
      · exact auT_put B.T (d := d) (v := f) hn i
      · have := sm_pt d
        omega
  · rw [if_pos q]; exact h.tl 0
theorem loose_is {T : TRE} {x : Nat} (h : T.kd x = 1) : T.loose x = T.lose x := by
  unfold TRE.lose
  rw [if_neg (by omega)]
theorem ai_unlink {A : AB} (h : AI A 0) (hT : A.dv = 2 → TFA A.T) {d n : Nat} : AI (unlinkA d n A).2.2 0 := by
  unfold unlinkA
  refine ai_pwr h (fun c => ?_)
  have hT := hT c
  by_cases q : nmOk A.tp A.tl 0 n = true ∧ A.T.kd d = 2
  · rw [if_neg (not_not_intro q)]
    by_cases e : A.T.kd (A.T.ent d (nmN A.tp 0 n)) ≠ 1
    · rw [if_pos e]; exact h.tl 0
    · rw [if_neg e]
      refine ai_rsv (h.tl 0) hT (fun _ b1 b2 => ?_)
      have b2 : (rsvB 4 (A.w_tl 0)).T = A.T := b2
      obtain ⟨B, eB⟩ : ∃ B, B = rsvB 4 (A.w_tl 0) := ⟨_, rfl⟩
      rw [← eB] at b1 b2 ⊢
      rw [← b2] at hT q e ⊢
      have e : B.T.kd (B.T.ent d (nmN A.tp 0 n)) = 1 := by omega
      obtain ⟨x, ex⟩ : ∃ x, x = B.T.ent d (nmN A.tp 0 n) := ⟨_, rfl⟩
      rw [← ex] at e ⊢
      have x0 : x ≠ 0 := by
        have := (hT.rng x (by omega)).1
        omega
      have hn := (b1.tw.dn hT (d := d) (n := nmN A.tp 0 n) (by rw [← ex]; exact x0)).2.2
      have el : (B.T.put d (nmN A.tp 0 n) 0).loose x = (B.T.put d (nmN A.tp 0 n) 0).lose x := loose_is e
      rw [el]
      refine b1.act (by decide) (twf_lose b1.tw hT ex.symm x0 (fun w => by omega)) (fun g hg hr => ?_) (add := fun i => if i = d then 1 else 0) (fun i => ?_) ?_
      · have hr : va_up B.rn x true g = false := hr
        by_cases c : g = x
        · rw [c, va_up_self] at hr; cases hr
        · rw [va_up_ne _ _ c] at hr
          rw [lose_kd c] at hg
          rw [lose_lk c]
          exact b1.fk g hg hr
      · exact Nat.le_trans (auT_lose _ _ _) (auT_put B.T (d := d) (v := 0) hn i)
      · have := sm_pt d
        omega
  · rw [if_pos q]; exact h.tl 0
theorem dir_lose {T : TRE} {x : Nat} (h : T.kd x = 2) : T.wKd (va_up T.kd x 0) = T.lose x := by
  unfold TRE.lose
  rw [if_pos h]
theorem ai_rmdir {A : AB} (h : AI A 0) (hT : A.dv = 2 → TFA A.T) {d n : Nat} : AI (rmdirA d n A).2.2 0 := by
  unfold rmdirA
  refine ai_pwr h (fun c => ?_)
  have hT := hT c
  by_cases q : nmOk A.tp A.tl 0 n = true ∧ A.T.kd d = 2
  · rw [if_neg (not_not_intro q)]
    by_cases e : A.T.kd (A.T.ent d (nmN A.tp 0 n)) ≠ 2 ∨ 0 < nmc (A.T.ent (A.T.ent d (nmN A.tp 0 n)))
    · rw [if_pos e]; exact h.tl 0
    · rw [if_neg e]
      refine ai_rsv (h.tl 0) hT (fun _ b1 b2 => ?_)
      have b2 : (rsvB 4 (A.w_tl 0)).T = A.T := b2
      obtain ⟨B, eB⟩ : ∃ B, B = rsvB 4 (A.w_tl 0) := ⟨_, rfl⟩
      rw [← eB] at b1 b2 ⊢
      rw [← b2] at hT q e ⊢
      obtain ⟨x, ex⟩ : ∃ x, x = B.T.ent d (nmN A.tp 0 n) := ⟨_, rfl⟩
      rw [← ex] at e ⊢
      have e1 : B.T.kd x = 2 := Classical.byContradiction (fun w => e (Or.inl w))
      have e2 : nmc (B.T.ent x) = 0 := by
        have : ¬ 0 < nmc (B.T.ent x) := fun w => e (Or.inr w)
        omega
      have x0 : x ≠ 0 := by
        have := (hT.rng x (by omega)).1
        omega
      have hn := (b1.tw.dn hT (d := d) (n := nmN A.tp 0 n) (by rw [← ex]; exact x0)).2.2
      have el : (B.T.put d (nmN A.tp 0 n) 0).wKd (va_up B.T.kd x 0) = (B.T.put d (nmN A.tp 0 n) 0).lose x := dir_lose (T := B.T.put d (nmN A.tp 0 n) 0) e1
      rw [el]
      have := b1.act (T' := (B.T.put d (nmN A.tp 0 n) 0).lose x) (rn' := B.rn) (by decide) (twf_lose b1.tw hT ex.symm x0 (fun _ => e2)) (fun g hg hr => ?_) (add := fun i => if i = d then 1 else 0) (fun i => ?_) ?_
      · exact this
      · by_cases c : g = x
        · exfalso
          rw [c] at hg
          rcases lose_x (T := B.T.put d (nmN A.tp 0 n) 0) (x := x) (Or.inr e1) with ⟨z, -⟩ | ⟨z, -⟩
          · omega
          · have z : B.T.kd x = 1 := z
            omega
        · rw [lose_kd c] at hg
          rw [lose_lk c]
          exact b1.fk g hg hr
      · exact Nat.le_trans (auT_lose _ _ _) (auT_put B.T (d := d) (v := 0) hn i)
      · have := sm_pt d
        omega
  · rw [if_pos q]; exact h.tl 0
theorem ren_kd {T : TRE} {d n1 o n2 id lost e : Nat} (h : lost = 0 ∨ e ≠ lost) : (T.ren d n1 o n2 id lost).kd e = T.kd e ∧ (T.ren d n1 o n2 id lost).lk e = T.lk e := by
  unfold TRE.ren
  rw [moved_kd, moved_lk, put_kd, put_lk]
  by_cases c : lost = 0
  · rw [if_pos c]; exact ⟨rfl, rfl⟩
  · have q : e ≠ lost := h.elim (fun w => absurd w c) (fun w => w)
    rw [if_neg c, lose_kd q, lose_lk q]
    exact ⟨rfl, rfl⟩
theorem auT_ren (T : TRE) {d n1 o n2 id lost : Nat} (h1 : n1 < NNM) (h2 : n2 < NNM) (i : Nat) : auT (T.ren d n1 o n2 id lost) i ≤ auT T i + ((if i = d then 1 else 0) + ((if i = o then 1 else 0) + (if i = o then 1 else 0))) := by
  unfold TRE.ren
  rw [auT_moved]
  have a1 := auT_put (if lost = 0 then T.put d n1 0 else ((T.put d n1 0).put o n2 0).lose lost) (d := o) (v := id) h2 i
  have a2 := auT_put T (d := d) (v := 0) h1 i
  by_cases c : lost = 0
  · rw [if_pos c] at a1 ⊢
    omega
  · rw [if_neg c] at a1 ⊢
    have a3 := auT_put (T.put d n1 0) (d := o) (v := 0) h2 i
    have a4 := auT_lose ((T.put d n1 0).put o n2 0) lost i
    omega
theorem ai_rename {A : AB} (h : AI A 0) (hT : A.dv = 2 → TFA A.T) (ht : A.tl ≤ 2060) (htp : ∀ i, i < 2060 → A.tp i < 256) {d n o m : Nat} : AI (renA d n o m A).2.2 0 := by
  unfold renA
  refine ai_pwr h (fun c => ?_)
  have hT := hT c
  by_cases q : nmOk A.tp A.tl 0 n = true ∧ nmOk A.tp A.tl n m = true ∧ A.T.kd d = 2 ∧ A.T.kd o = 2
  · rw [if_neg (not_not_intro q)]
    have hn1 := NL_lt (tpNL ht htp q.1)
    have hnl := tpNL ht htp q.2.1
    have hn2 := NL_lt hnl
    obtain ⟨n1, e1⟩ : ∃ n1, n1 = nmN A.tp 0 n := ⟨_, rfl⟩
    obtain ⟨n2, e2⟩ : ∃ n2, n2 = nmN A.tp n m := ⟨_, rfl⟩
    rw [← e1] at hn1 ⊢
    rw [← e2] at hn2 hnl ⊢
    obtain ⟨id, eid⟩ : ∃ id, id = A.T.ent d n1 := ⟨_, rfl⟩
    obtain ⟨lost, elo⟩ : ∃ lost, lost = A.T.ent o n2 := ⟨_, rfl⟩
    rw [← eid, ← elo]
    unfold renA2
    by_cases s : id ≠ 0 ∧ id = lost
    · rw [if_pos s]
      exact ai_rsv (h.tl 0) hT (fun _ b1 _ => b1.wk0)
    · rw [if_neg s]
      by_cases e : id = 0 ∨ (lost ≠ 0 ∧ (A.T.kd lost ≠ A.T.kd id ∨ (A.T.kd lost = 2 ∧ 0 < nmc (A.T.ent lost)))) ∨ (lost = 0 ∧ o ≠ d ∧ 48 ≤ nmc (A.T.ent o)) ∨ (A.T.kd id = 2 ∧ isInB A.T o id = true)
      · rw [if_pos e]; exact h.tl 0
      · rw [if_neg e]
        refine ai_rsv (h.tl 0) hT (fun _ b1 b2 => ?_)
        have b2 : (rsvB 8 (A.w_tl 0)).T = A.T := b2
        obtain ⟨B, eB⟩ : ∃ B, B = rsvB 8 (A.w_tl 0) := ⟨_, rfl⟩
        rw [← eB] at b1 b2 ⊢
        rw [← b2] at hT q e eid elo
        have id0 : id ≠ 0 := fun w => e (Or.inl w)
        have hne : id ≠ lost := fun w => s ⟨id0, w⟩
        refine b1.act (by decide) (twf_ren b1.tw hT eid.symm id0 q.2.2.2 elo.symm hne hnl (fun w => ⟨Classical.byContradiction (fun v => e (Or.inr (Or.inl ⟨w, Or.inl v⟩))), fun v => e (Or.inr (Or.inl ⟨w, Or.inr v⟩))⟩) (fun w => e (Or.inr (Or.inr (Or.inr w))))) (fun g hg hr => ?_) (add := fun i => (if i = d then 1 else 0) + ((if i = o then 1 else 0) + (if i = o then 1 else 0))) (fun i => auT_ren B.T hn1 hn2 i) ?_
        · have hr : va_up (if lost = 0 then B.rn else va_up B.rn lost true) id true g = false := hr
          by_cases c1 : g = id
          · rw [c1, va_up_self] at hr; cases hr
          · rw [va_up_ne _ _ c1] at hr
            have key : (lost = 0 ∨ g ≠ lost) ∧ B.rn g = false := by
              by_cases c0 : lost = 0
              · rw [if_pos c0] at hr; exact ⟨Or.inl c0, hr⟩
              · rw [if_neg c0] at hr
                by_cases c2 : g = lost
                · rw [c2, va_up_self] at hr; cases hr
                · rw [va_up_ne _ _ c2] at hr; exact ⟨Or.inr c2, hr⟩
            obtain ⟨r1, r2⟩ := ren_kd (T := B.T) (d := d) (n1 := n1) (o := o) (n2 := n2) (id := id) key.1
            rw [r1] at hg
            rw [r2]
            exact b1.fk g hg key.2
        · have s1 := sm_pt d
          have s2 := sm_pt o
          rw [sm_add, sm_add]
          omega
  · rw [if_pos q]; exact h.tl 0
theorem ai_write {A : AB} (h : AI A 0) (hT : A.dv = 2 → TFA A.T) {f at' n : Nat} : AI (writeA f at' n A).2.2 0 := by
  unfold writeA
  refine ai_pwr h (fun c => ?_)
  have hT := hT c
  by_cases q : A.T.kd f = 1 ∧ 1 ≤ n ∧ n ≤ 2000 ∧ n ≤ A.tl ∧ at' + n ≤ 100000
  · rw [if_neg (not_not_intro q)]
    refine ai_rsv (h.tl 0) hT (fun _ b1 b2 => ?_)
    have hw := auF_wr (f := (rsvB ((at' + n - 1) / 256 - at' / 256 + 7) (A.w_tl 0)).T.fil f) (at' := at') (n := n) (tp := A.tp) q.2.1 q.2.2.1
    obtain ⟨N, eN⟩ : ∃ N, N = (at' + n - 1) / 256 - at' / 256 + 7 := ⟨_, rfl⟩
    rw [← eN] at b1 b2 hw ⊢
    obtain ⟨B, eB⟩ : ∃ B, B = rsvB N (A.w_tl 0) := ⟨_, rfl⟩
    rw [← eB] at b1 b2 hw ⊢
    have := b1.act (rn' := B.rn) (by omega) (b1.tw.fil (va_up B.T.fil f (wrF (B.T.fil f) at' n A.tp))) (fun g hg hr => b1.fk g hg hr) (auT_fil B.T hw) (by
      have s1 := sm_pt f
      have := sm_le (f := fun j => if 1 + j = f then N else 0) (g := fun j => N * (if 1 + j = f then 1 else 0)) (n := 250) (fun j _ => by
        by_cases c : 1 + j = f
        · rw [if_pos c, if_pos c]; omega
        · rw [if_neg c]; exact Nat.zero_le _)
      rw [sm_mul] at this
      refine Nat.le_trans this (Nat.le_trans (Nat.mul_le_mul_left N s1) (by omega)))
    exact this
  · rw [if_pos q]; exact h.tl 0
theorem ai_trunc {A : AB} (h : AI A 0) (hT : A.dv = 2 → TFA A.T) {f s : Nat} : AI (truncA f s A).2.2 0 := by
  unfold truncA
  refine ai_pwr h (fun c => ?_)
  have hT := hT c
  by_cases q : A.T.kd f = 1 ∧ s ≤ 100000
  · rw [if_neg (not_not_intro q)]
    refine ai_rsv h hT (fun _ b1 b2 => ?_)
    obtain ⟨B, eB⟩ : ∃ B, B = rsvB 6 A := ⟨_, rfl⟩
    rw [← eB] at b1 b2 ⊢
    have hw := auF_tr (f := B.T.fil f) (by rw [b2]; exact hT.fv f q.1) s
    have := b1.act (rn' := B.rn) (by decide) (b1.tw.fil (va_up B.T.fil f (trF (B.T.fil f) s))) (fun g hg hr => b1.fk g hg hr) (auT_fil B.T hw) (by
      have s1 := sm_pt f
      have := sm_le (f := fun j => if 1 + j = f then 6 else 0) (g := fun j => 6 * (if 1 + j = f then 1 else 0)) (n := 250) (fun j _ => by
        by_cases c : 1 + j = f
        · rw [if_pos c, if_pos c]; omega
        · rw [if_neg c]; exact Nat.zero_le _)
      rw [sm_mul] at this
      omega)
    exact this
  · rw [if_pos q]; exact h
theorem ai_cut {A : AB} {k : ANS} (h : AI A 0) (hk : AI k.2.2 0) : AI (cutA A k).2.2 0 := by
  unfold cutA
  by_cases c : A.ct = 1
  · rw [if_pos c]; exact h.off
  · rw [if_neg c]; exact hk
theorem ai_fsync {A : AB} (h : AI A 0) (hT : A.dv = 2 → TFA A.T) {f : Nat} : AI (fsyncA f A).2.2 0 := by
  unfold fsyncA
  refine ai_pwr h (fun c => ?_)
  have hT := hT c
  by_cases q : A.T.kd f = 1
  · rw [if_neg (not_not_intro q)]
    refine ai_rsv h hT (fun _ b1 b2 => ?_)
    obtain ⟨B, eB⟩ : ∃ B, B = rsvB 1 A := ⟨_, rfl⟩
    rw [← eB] at b1 b2 ⊢
    rw [← b2] at hT q
    refine ai_cut b1.wk0 ?_
    by_cases r : B.rn f = true
    · rw [if_pos r]; exact b1.ckp hT
    · rw [if_neg r]
      have rf : B.rn f = false := by
        cases w : B.rn f
        · rfl
        · exact absurd w r
      obtain ⟨o1, o2⟩ := b1.fk f q rf
      obtain ⟨m, m1, m2, m3⟩ := b1.mx
      have hft : B.us + B.fr ≤ B.rm := by
        rcases b1.ft with w | w
        · exact w
        · omega
      refine ⟨b1.tw, b1.ow, fun i hi => ?_, b1.fk, b1.rb, Or.inl hft, m, fun i => ⟨(m1 i).1, (m1 i).2.1, ?_⟩, ?_, ?_⟩
      · have hi : va_up B.S f true i = true := hi
        by_cases ci : i = f
        · rw [ci]; exact o1
        · rw [va_up_ne _ _ ci] at hi; exact b1.sk i hi
      · by_cases ci : i = f
        · have e : auT ((B.w_S (va_up B.S f true)).w_F (va_up B.F f (B.T.fil f))).R i = auT B.T i := by
            unfold auT
            have e1 : ((B.w_S (va_up B.S f true)).w_F (va_up B.F f (B.T.fil f))).R.kd i = 1 := by rw [ci]; exact o1
            have e2 : ((B.w_S (va_up B.S f true)).w_F (va_up B.F f (B.T.fil f))).R.fil i = B.T.fil i := by
              show (if va_up B.S f true i = true then va_up B.F f (B.T.fil f) i else B.O.fil i) = B.T.fil i
              rw [ci, va_up_self, if_pos rfl, va_up_self]
            rw [e1, e2, if_neg (by decide), if_neg (by decide), ci, q, if_neg (by decide), if_neg (by decide)]
          rw [e]; exact (m1 i).1
        · have e : auT ((B.w_S (va_up B.S f true)).w_F (va_up B.F f (B.T.fil f))).R i = auT B.R i := by
            unfold auT
            have e2 : ((B.w_S (va_up B.S f true)).w_F (va_up B.F f (B.T.fil f))).R.fil i = B.R.fil i := by
              show (if va_up B.S f true i = true then va_up B.F f (B.T.fil f) i else B.O.fil i) = (if B.S i = true then B.F i else B.O.fil i)
              rw [va_up_ne _ _ ci, va_up_ne _ _ ci]
            rw [e2]
            rfl
          rw [e]; exact (m1 i).2.2
      · show sm (fun j => m (1 + j)) 250 + 0 ≤ B.us + B.fr
        omega
      · show sm (fun j => m (1 + j)) 250 + 0 ≤ B.rm
        omega
  · rw [if_pos q]; exact h
theorem ai_sync {A : AB} (h : AI A 0) (hT : A.dv = 2 → TFA A.T) : AI (syncA A).2.2 0 := by
  unfold syncA
  exact ai_pwr h (fun c => ai_cut h (h.ckp (hT c)))
theorem ai_mount {A : AB} (h : AI A 0) (hR : A.dv = 1 → TFA A.R) : AI (mountA A).2.2 0 := by
  unfold mountA
  by_cases c : A.dv = 1
  · rw [if_pos c]
    obtain ⟨N, eN⟩ : ∃ N, N = fwdN A := ⟨_, rfl⟩
    rw [← eN]
    obtain ⟨C, eC⟩ : ∃ C, C = ((A.w_T A.R).w_dv 2).w_fw N := ⟨_, rfl⟩
    have cT : C.T = A.R := by rw [eC]; rfl
    have crm : C.rm = A.rm := by rw [eC]; rfl
    rw [← eC]
    obtain ⟨m, m1, m2, m3⟩ := h.mx
    have hau := sm_le (f := fun j => auT A.R (1 + j)) (g := fun j => m (1 + j)) (n := 250) (fun j _ => (m1 _).2.2)
    have := AI.pre (A := C) (by rw [cT]; exact h.ow.fil _) (by rw [crm]; exact h.rb) (by rw [cT, crm]; omega)
    have := this.ckp (by rw [pre_T, cT]; exact hR c)
    rw [pre_ckp] at this
    exact this
  · rw [if_neg c]; exact h
theorem root_tfa : TFA rootT := by
  refine ⟨fun id q => ?_, fun d _ => ?_, fun f q => ?_⟩
  · rw [root_kd] at q ⊢
    by_cases c : id = 1
    · rw [if_pos c]; exact ⟨by omega, by omega, Or.inr rfl⟩
    · rw [if_neg c] at q; omega
  · rw [nmc_0 (root_ent d)]; exact Nat.zero_le _
  · rw [root_kd] at q
    split at q <;> omega
theorem ai_format {A : AB} (h : AI A 0) {s r : Nat} : AI (formatA s r A).2.2 0 := by
  unfold formatA
  by_cases c : 48 ≤ s ∧ s ≤ 128 ∧ 24 ≤ r ∧ r ≤ s / 2
  · rw [if_pos c]
    obtain ⟨C, eC⟩ : ∃ C, C = ((((((A.w_dv 2).w_ct 0).w_fw 0).w_rm (16 * (s - r))).w_tk 0).w_T rootT) := ⟨_, rfl⟩
    have cT : C.T = rootT := by rw [eC]; rfl
    have crm : C.rm = 16 * (s - r) := by rw [eC]; rfl
    show AI ((((((A.w_dv 2).w_ct 0).w_fw 0).w_rm (16 * (s - r))).w_tk 0).w_T rootT).ckp 0
    rw [← eC]
    have := AI.pre (A := C) (by rw [cT]; exact root_wf) (by rw [crm]; omega) (by rw [cT, crm, root_au]; omega)
    have := this.ckp (by rw [pre_T, cT]; exact root_tfa)
    rw [pre_ckp] at this
    exact this
  · rw [if_neg c]; exact h
