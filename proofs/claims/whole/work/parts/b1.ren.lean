/-! a renamed tree is a tree -/
theorem moved_ent {T : TRE} {f d : Nat} : (T.moved f d).ent = T.ent := by
  unfold TRE.moved
  split <;> rfl
theorem moved_lk {T : TRE} {f d : Nat} : (T.moved f d).lk = T.lk := by
  unfold TRE.moved
  split <;> rfl
theorem moved_par {T : TRE} {f d : Nat} (e : Nat) : (T.moved f d).par e = if T.kd f ≠ 1 ∧ e = f then d else T.par e := by
  unfold TRE.moved
  by_cases c : T.kd f = 1
  · rw [if_pos c, if_neg (fun w => w.1 c)]
  · rw [if_neg c]
    show va_up T.par f d e = _
    by_cases q : e = f
    · rw [q, va_up_self, if_pos ⟨c, rfl⟩]
    · rw [va_up_ne _ _ q, if_neg (fun w => q w.2)]
theorem lose_par {T : TRE} {x : Nat} : (T.lose x).par = T.par := by
  unfold TRE.lose TRE.loose
  split
  · rfl
  · split <;> rfl
theorem lose_lk {T : TRE} {x e : Nat} (h : e ≠ x) : (T.lose x).lk e = T.lk e := by
  unfold TRE.lose TRE.loose
  split
  · rfl
  · split
    · exact va_up_ne _ _ h
    · rfl
theorem lose_x {T : TRE} {x : Nat} (hk : T.kd x = 1 ∨ T.kd x = 2) : ((T.lose x).kd x = 0 ∧ (T.kd x = 2 ∨ T.lk x ≤ 1)) ∨ (T.kd x = 1 ∧ (T.lose x).kd x = 1 ∧ 1 < T.lk x ∧ (T.lose x).lk x = T.lk x - 1) := by
  unfold TRE.lose TRE.loose
  by_cases c : T.kd x = 2
  · rw [if_pos c]
    exact Or.inl ⟨va_up_self _ _ _, Or.inl c⟩
  · rw [if_neg c]
    by_cases d : 1 < T.lk x
    · rw [if_pos d]
      exact Or.inr ⟨by omega, by show T.kd x = 1; omega, d, va_up_self _ _ _⟩
    · rw [if_neg d]
      exact Or.inl ⟨va_up_self _ _ _, Or.inr (by omega)⟩
theorem twf_ren {T : TRE} (h : TWF T) (hr : TFA T) {d n1 o n2 id lost l : Nat} (hx : T.ent d n1 = id) (h0 : id ≠ 0) (ho : T.kd o = 2) (hlo : T.ent o n2 = lost) (hne : id ≠ lost) (hnl : NL n2 l) (hmv : lost ≠ 0 → T.kd lost = T.kd id ∧ ¬ (T.kd lost = 2 ∧ 0 < nmc (T.ent lost))) (hin : ¬ (T.kd id = 2 ∧ isInB T o id = true)) : TWF (T.ren d n1 o n2 id lost) := by
  have hd0 : T.ent d n1 ≠ 0 := by omega
  obtain ⟨hd, hd2, hn1⟩ := h.dn hr hd0
  have hn2 := NL_lt hnl
  have ho2 := (hr.rng o (by omega)).2.1
  obtain ⟨tg1, tg2⟩ := h.tg d n1 hd0
  rw [hx] at tg1 tg2
  have hid := hr.rng id tg1
  have hon : ¬ (o = d ∧ n2 = n1) := fun w => hne (by rw [← hx, ← hlo, w.1, w.2])
  have lk0 : lost ≠ 0 → T.kd lost ≠ 0 ∧ lost ≠ 1 := fun q => by
    have := h.tg o n2 (by rw [hlo]; exact q)
    rw [hlo] at this
    exact this
  have hle : lost ≠ 0 → T.kd lost = 2 → ∀ m, T.ent lost m = 0 := fun q k m => Classical.byContradiction (fun w => by
    have h9 := (hmv q).2
    have : nmc (T.ent lost) = 0 := by
      have : ¬ 0 < nmc (T.ent lost) := fun v => h9 ⟨k, v⟩
      omega
    exact w (nmc_z this (h.dn hr w).2.2))
  have hlo' : lost ≠ o := fun e => by
    have l0 : lost ≠ 0 := fun v => by
      have := (hr.rng o (by omega)).1
      omega
    have := hle l0 (by rw [e]; exact ho) n2
    rw [e, hlo] at this
    exact l0 this
  have hld' : lost ≠ d := fun e => by
    have l0 : lost ≠ 0 := fun v => by
      have := (hr.rng d (by omega)).1
      omega
    have := hle l0 (by rw [e]; exact hd) n1
    rw [e, hx] at this
    exact h0 this
  obtain ⟨T0, e0⟩ : ∃ T0, T0 = T.put d n1 0 := ⟨_, rfl⟩
  obtain ⟨T1, e1⟩ : ∃ T1, T1 = (if lost = 0 then T0 else (T0.put o n2 0).lose lost) := ⟨_, rfl⟩
  obtain ⟨T', eT⟩ : ∃ T', T' = (T1.put o n2 id).moved id o := ⟨_, rfl⟩
  have eR : T.ren d n1 o n2 id lost = T' := by rw [eT, e1, e0]; rfl
  have k0 : T0.kd = T.kd := by rw [e0]; rfl
  have l0 : T0.lk = T.lk := by rw [e0]; rfl
  have p0 : T0.par = T.par := by rw [e0]; rfl
  have en0 : ∀ e m, T0.ent e m = if e = d ∧ m = n1 then 0 else T.ent e m := fun e m => by
    rw [e0]
    by_cases c : e = d
    · rw [c]
      by_cases c2 : m = n1
      · rw [c2, put_en, if_pos ⟨rfl, rfl⟩]
      · rw [put_e1 _ c2, if_neg (fun w => c2 w.2)]
    · rw [put_e2 _ c, if_neg (fun w => c w.1)]
  have en0' : T0.ent o n2 = lost := by rw [en0, if_neg hon, hlo]
  have en1 : ∀ e m, T1.ent e m = if e = o ∧ m = n2 then 0 else T0.ent e m := fun e m => by
    rw [e1]
    by_cases c0 : lost = 0
    · rw [if_pos c0]
      by_cases c : e = o ∧ m = n2
      · rw [if_pos c, c.1, c.2, en0', c0]
      · rw [if_neg c]
    · rw [if_neg c0, lose_ent]
      by_cases c : e = o
      · rw [c]
        by_cases c2 : m = n2
        · rw [c2, put_en, if_pos ⟨rfl, rfl⟩]
        · rw [put_e1 _ c2, if_neg (fun w => c2 w.2)]
      · rw [put_e2 _ c, if_neg (fun w => c w.1)]
  have en : ∀ e m, T'.ent e m = if e = o ∧ m = n2 then id else if e = d ∧ m = n1 then 0 else T.ent e m := fun e m => by
    rw [eT, moved_ent]
    by_cases c : e = o
    · rw [c]
      by_cases c2 : m = n2
      · rw [c2, put_en, if_pos ⟨rfl, rfl⟩]
      · rw [put_e1 _ c2, if_neg (fun w => c2 w.2), en1, if_neg (fun w => c2 w.2), en0]
    · rw [put_e2 _ c, if_neg (fun w => c w.1), en1, if_neg (fun w => c w.1), en0]
  have lc : ∀ g, g ≠ 0 → lkc T' g + (if lost = g then 1 else 0) = lkc T g := fun g hg => by
    have a1 := lkc_put T (v := 0) hd2 hn1 g
    rw [← e0, hx, if_neg (Ne.symm hg)] at a1
    have a2 := lkc_put T0 (v := 0) ho2 hn2 g
    rw [en0', if_neg (Ne.symm hg)] at a2
    have a3 := lkc_put T1 (v := id) ho2 hn2 g
    have en1' : T1.ent o n2 = 0 := by rw [en1, if_pos (show o = o ∧ n2 = n2 from ⟨rfl, rfl⟩)]
    rw [en1', if_neg (Ne.symm hg)] at a3
    have a4 : lkc T1 g = lkc (T0.put o n2 0) g := by
      rw [e1]
      by_cases c0 : lost = 0
      · rw [if_pos c0]
        rw [c0, if_neg (Ne.symm hg)] at a2
        omega
      · rw [if_neg c0]
        exact lkc_eq lose_ent g
    have a5 : lkc T' g = lkc (T1.put o n2 id) g := by
      rw [eT]
      exact lkc_eq moved_ent g
    omega
  have kdn : ∀ e, e ≠ lost → T'.kd e = T.kd e := fun e hne => by
    rw [eT, moved_kd, put_kd, e1]
    by_cases c0 : lost = 0
    · rw [if_pos c0, k0]
    · rw [if_neg c0, lose_kd hne, put_kd, k0]
  have lkn : ∀ e, e ≠ lost → T'.lk e = T.lk e := fun e hne => by
    rw [eT, moved_lk, put_lk, e1]
    by_cases c0 : lost = 0
    · rw [if_pos c0, l0]
    · rw [if_neg c0, lose_lk hne, put_lk, l0]
  have kid : T'.kd id = T.kd id := kdn id hne
  have pa : ∀ e, T'.par e = if T.kd id ≠ 1 ∧ e = id then o else T.par e := fun e => by
    have : (T1.put o n2 id).kd id = T.kd id := by
      rw [← kid, eT, moved_kd]
    rw [eT, moved_par, this]
    have q : (T1.put o n2 id).par = T.par := by
      show T1.par = _
      rw [e1]
      by_cases c0 : lost = 0
      · rw [if_pos c0, p0]
      · rw [if_neg c0, lose_par]
        exact p0
    rw [q]
  have kdx : lost = 0 ∨ (T'.kd lost = 0 ∧ lkc T' lost = 0) ∨ (T.kd lost = 1 ∧ T'.kd lost = 1 ∧ T'.lk lost = lkc T' lost) := by
    by_cases c0 : lost = 0
    · exact Or.inl c0
    · refine Or.inr ?_
      obtain ⟨q1, q2⟩ := lk0 c0
      obtain ⟨-, -, g3⟩ := hr.rng lost q1
      have hl := lc lost c0
      rw [if_pos rfl] at hl
      have ek : (T0.put o n2 0).kd lost = T.kd lost := by rw [put_kd, k0]
      have el : (T0.put o n2 0).lk lost = T.lk lost := by rw [put_lk, l0]
      have tk : T'.kd lost = ((T0.put o n2 0).lose lost).kd lost := by rw [eT, moved_kd, put_kd, e1, if_neg c0]
      have tl : T'.lk lost = ((T0.put o n2 0).lose lost).lk lost := by rw [eT, moved_lk, put_lk, e1, if_neg c0]
      have := lose_x (T := T0.put o n2 0) (x := lost) (by rw [ek]; exact g3)
      rw [ek, el, ← tk, ← tl] at this
      rcases this with ⟨z1, z2⟩ | ⟨z1, z2, z3, z4⟩
      · refine Or.inl ⟨z1, ?_⟩
        rcases z2 with z2 | z2
        · have := h.dl lost z2 q2
          omega
        · rcases g3 with g | g
          · have := h.lk lost g
            omega
          · have := h.dl lost g q2
            omega
      · have := h.lk lost z1
        exact Or.inr ⟨z1, z2, by omega⟩
  have go : ∀ e m, T'.ent e m ≠ 0 → (e = o ∧ m = n2 ∧ T'.ent e m = id) ∨ (T'.ent e m = T.ent e m ∧ T.ent e m ≠ 0 ∧ ¬ (e = o ∧ m = n2) ∧ ¬ (e = d ∧ m = n1)) := fun e m q => by
    rw [en] at q ⊢
    by_cases c : e = o ∧ m = n2
    · rw [if_pos c]; exact Or.inl ⟨c.1, c.2, rfl⟩
    · rw [if_neg c] at q ⊢
      by_cases c2 : e = d ∧ m = n1
      · rw [if_pos c2] at q; exact absurd rfl q
      · rw [if_neg c2] at q ⊢
        exact Or.inr ⟨rfl, q, c, c2⟩
  have rngE : ∀ e m, T'.ent e m ≠ 0 → e ≤ 250 ∧ m < NNM := fun e m q => by
    rcases go e m q with ⟨g1, g2, -⟩ | ⟨-, g2, -⟩
    · rw [g1, g2]; exact ⟨ho2, hn2⟩
    · exact (h.dn hr g2).2
  have tgx : ∀ e m, T'.ent e m ≠ 0 → T'.ent e m = lost → T'.kd lost ≠ 0 := fun e m q w k => by
    obtain ⟨r1, r2⟩ := rngE e m q
    have := lkc_one (T := T') r1 r2 w
    rcases kdx with z | ⟨-, z⟩ | ⟨-, z, -⟩
    · rw [w] at q; exact q z
    · omega
    · omega
  have k2 : ∀ e, T'.kd e = 2 → e ≠ lost ∧ T.kd e = 2 := fun e q => by
    by_cases cx : e = lost
    · exfalso
      rw [cx] at q
      rcases kdx with z | ⟨z, -⟩ | ⟨-, z, -⟩
      · rw [z] at q
        have : T'.kd 0 = T.kd 0 := by
          by_cases w : (0 : Nat) = lost
          · rw [eT, moved_kd, put_kd, e1, if_pos w.symm, k0]
          · exact kdn 0 w
        rw [this] at q
        have := (hr.rng 0 (by omega)).1
        omega
      · omega
      · omega
    · exact ⟨cx, by rw [← kdn e cx]; exact q⟩
  rw [eR]
  refine ⟨fun e m q => ?_, fun e m q => ?_, fun e m q => ?_, fun g q => ?_, fun g q w => ?_, fun e m q => ?_, ?_⟩
  · refine Classical.byContradiction (fun w => ?_)
    rcases go e m w with ⟨g1, -, -⟩ | ⟨-, g2, -, -⟩
    · rw [g1, kdn o (Ne.symm hlo')] at q
      exact q ho
    · have k := (h.dn hr g2).1
      by_cases cx : e = lost
      · rw [cx] at k g2
        by_cases c0 : lost = 0
        · rw [c0] at k
          have := (hr.rng 0 (by omega)).1
          omega
        · exact g2 (hle c0 k m)
      · rw [kdn e cx] at q
        exact q k
  · rcases go e m q with ⟨-, g2, -⟩ | ⟨-, g2, -, -⟩
    · rw [g2]; exact ⟨l, hnl⟩
    · exact h.nl e m g2
  · rcases go e m q with ⟨-, -, g3⟩ | ⟨g1, g2, -, -⟩
    · rw [g3, kid]; exact ⟨tg1, tg2⟩
    · have := h.tg e m g2
      by_cases cx : T'.ent e m = lost
      · refine ⟨by rw [cx]; exact tgx e m q cx, by rw [g1]; exact this.2⟩
      · rw [kdn _ cx, g1]; exact this
  · by_cases cx : g = lost
    · rw [cx] at q ⊢
      rcases kdx with z | ⟨z, -⟩ | ⟨-, -, z⟩
      · rw [z] at q
        have : T'.kd 0 = T.kd 0 := by
          by_cases w : (0 : Nat) = lost
          · rw [eT, moved_kd, put_kd, e1, if_pos w.symm, k0]
          · exact kdn 0 w
        rw [this] at q
        have := (hr.rng 0 (by omega)).1
        omega
      · omega
      · exact z
    · rw [kdn g cx] at q
      have := (hr.rng g (by omega)).1
      have hl := lc g (by omega)
      rw [if_neg (Ne.symm cx)] at hl
      have := h.lk g q
      rw [lkn g cx]
      omega
  · obtain ⟨cx, q⟩ := k2 g q
    have := (hr.rng g (by omega)).1
    have hl := lc g (by omega)
    rw [if_neg (Ne.symm cx)] at hl
    have := h.dl g q w
    omega
  · obtain ⟨cx, q'⟩ := k2 _ q
    have q0 : T'.ent e m ≠ 0 := fun v => by
      rw [v] at q'
      have := (hr.rng 0 (by omega)).1
      omega
    rcases go e m q0 with ⟨g1, g2, g3⟩ | ⟨g1, g2, g3, g4⟩
    · rw [g3] at q'
      rw [g3, pa, if_pos ⟨by omega, rfl⟩, g1]
    · rw [g1] at q' ⊢
      rw [pa, if_neg (fun w => ?_)]
      · exact h.pr e m q'
      · have k : T.kd id = 2 := by rw [← w.2]; exact q'
        have hl := h.dl id k tg2
        have hp := lkc_put T (v := 0) hd2 hn1 id
        rw [← e0, hx, if_pos rfl, if_neg (Ne.symm h0)] at hp
        have := lkc_one (T := T0) (d := e) (n := m) (x := id) (h.dn hr g2).2.1 (h.dn hr g2).2.2 (by rw [en0, if_neg g4]; exact w.2)
        omega
  · obtain ⟨a1, a2, a3, a4⟩ := h.ac
    have hl1 : (1 : Nat) ≠ lost := fun w => (lk0 (by omega)).2 w.symm
    have par_ne : ∀ e, T.kd e = 2 → e ≠ 1 → T.par e ≠ lost := fun e k w v => by
      have hp := a3 e k w
      rw [v] at hp
      have c0 : lost ≠ 0 := fun z => by
        rw [z] at hp
        have := (hr.rng 0 (by omega)).1
        omega
      have hl := h.dl e k w
      obtain ⟨a, m, hm⟩ := lkc_ex (T := T) (x := e) (by omega)
      have := h.pr a m (by rw [hm]; exact k)
      rw [hm, v] at this
      have h9 := hle c0 hp m
      rw [this, hm] at h9
      have := (hr.rng e (by omega)).1
      omega
    have up0 : T.kd id = 2 → ∃ m, upN T' m o = 1 := fun k => by
      obtain ⟨mo, -, hmo⟩ := a4 o ho
      obtain ⟨m, -, m2, m3⟩ := least (p := fun m => upN T m o = 1) mo hmo
      have hno : ∀ j, j ≤ m → upN T j o ≠ id := fun j hj w => hin ⟨k, (isInW_iff 250 o (a4 o ho)).mpr ⟨j, w, fun i hi => m3 i (by omega)⟩⟩
      have : ∀ j, j ≤ m → ∀ e, upN T' j e = upN T j e ∨ ∃ i, i < j ∧ upN T i e = id := by
        intro j
        induction j with
        | zero => intro _ e; exact Or.inl rfl
        | succ j ih =>
          intro hj e
          show upN T' j (T'.par e) = upN T j (T.par e) ∨ _
          rw [pa]
          by_cases c : T.kd id ≠ 1 ∧ e = id
          · exact Or.inr ⟨0, by omega, c.2⟩
          · rw [if_neg c]
            rcases ih (by omega) (T.par e) with q | ⟨i, i1, i2⟩
            · exact Or.inl q
            · exact Or.inr ⟨i + 1, by omega, i2⟩
      rcases this m (Nat.le_refl _) o with q | ⟨i, i1, i2⟩
      · exact ⟨m, by rw [q]; exact m2⟩
      · exact absurd i2 (hno i (by omega))
    refine acy_of (fun e q => ?_) ?_ ?_ (fun e q w => ?_) (fun e q => ?_)
    · have := hr.rng e (by have := (k2 e q).2; omega)
      omega
    · rw [kdn 1 hl1]; exact a1
    · rw [pa, if_neg (fun w => tg2 w.2.symm)]; exact a2
    · obtain ⟨-, k⟩ := k2 e q
      rw [pa]
      by_cases c : T.kd id ≠ 1 ∧ e = id
      · rw [if_pos c, kdn o (Ne.symm hlo')]; exact ho
      · rw [if_neg c, kdn _ (par_ne e k w)]
        exact a3 e k w
    · obtain ⟨m, -, hm⟩ := a4 e (k2 e q).2
      have : ∀ m e, T.kd e = 2 → upN T m e = 1 → ∃ m', upN T' m' e = 1 := by
        intro m
        induction m with
        | zero => intro e _ q; exact ⟨0, q⟩
        | succ m ih =>
          intro e he q
          by_cases c1 : e = 1
          · exact ⟨0, c1⟩
          · by_cases c : T.kd id ≠ 1 ∧ e = id
            · obtain ⟨m', hm'⟩ := up0 (by rw [← c.2]; exact he)
              refine ⟨m' + 1, ?_⟩
              show upN T' m' (T'.par e) = 1
              rw [pa, if_pos c]
              exact hm'
            · obtain ⟨m', hm'⟩ := ih (T.par e) (a3 e he c1) q
              refine ⟨m' + 1, ?_⟩
              show upN T' m' (T'.par e) = 1
              rw [pa, if_neg c]
              exact hm'
      exact this m e (k2 e q).2 hm
