/-! trees stay trees -/
theorem lkc_put (T : TRE) {d n v : Nat} (hd : d ≤ 250) (hn : n < NNM) (x : Nat) : lkc (T.put d n v) x + (if T.ent d n = x then 1 else 0) = lkc T x + (if v = x then 1 else 0) := by
  have h1 := sm_up (f := fun m => if T.ent d m = x then 1 else 0) (i := n) (v := if v = x then 1 else 0) hn
  have e1 : sm (va_up (fun m => if T.ent d m = x then 1 else 0) n (if v = x then 1 else 0)) NNM = sm (fun m => if (T.put d n v).ent d m = x then 1 else 0) NNM := sm_congr (fun m _ => by
    by_cases c : m = n
    · rw [c, va_up_self, put_en]
    · rw [va_up_ne _ _ c, put_e1 _ c])
  rw [e1] at h1
  have h2 := sm_up (f := fun e => sm (fun m => if T.ent e m = x then 1 else 0) NNM) (i := d) (v := sm (fun m => if (T.put d n v).ent d m = x then 1 else 0) NNM) (n := 251) (by omega)
  have e2 : sm (va_up (fun e => sm (fun m => if T.ent e m = x then 1 else 0) NNM) d (sm (fun m => if (T.put d n v).ent d m = x then 1 else 0) NNM)) 251 = lkc (T.put d n v) x := sm_congr (fun e _ => by
    by_cases c : e = d
    · rw [c, va_up_self]
    · rw [va_up_ne _ _ c, put_e2 _ c])
  rw [e2] at h2
  have e3 : sm (fun e => sm (fun m => if T.ent e m = x then 1 else 0) NNM) 251 = lkc T x := rfl
  rw [e3] at h2
  omega
theorem lkc_one {T : TRE} {d n x : Nat} (hd : d ≤ 250) (hn : n < NNM) (h : T.ent d n = x) : 1 ≤ lkc T x := by
  have h1 := sm_one (f := fun m => if T.ent d m = x then 1 else 0) hn
  rw [if_pos h] at h1
  have h2 := sm_one (f := fun e => sm (fun m => if T.ent e m = x then 1 else 0) NNM) (i := d) (n := 251) (by omega)
  exact Nat.le_trans h1 h2
theorem lkc_ex {T : TRE} {x : Nat} (h : 0 < lkc T x) : ∃ d n, T.ent d n = x := by
  obtain ⟨d, -, h1⟩ := sm_ex h
  obtain ⟨n, -, h2⟩ := sm_ex (Nat.pos_of_ne_zero h1)
  exact ⟨d, n, Classical.byContradiction (fun w => h2 (if_neg w))⟩
theorem lkc_eq {T T' : TRE} (h : T'.ent = T.ent) (x : Nat) : lkc T' x = lkc T x := by
  unfold lkc
  rw [h]
theorem TWF.dn {T : TRE} (h : TWF T) (hr : TFA T) {d n : Nat} (q : T.ent d n ≠ 0) : T.kd d = 2 ∧ d ≤ 250 ∧ n < NNM := by
  have k : T.kd d = 2 := Classical.byContradiction (fun w => q (h.noe d n w))
  obtain ⟨l, hl⟩ := h.nl d n q
  exact ⟨k, (hr.rng d (by omega)).2.1, NL_lt hl⟩
theorem TWF.no {T : TRE} (h : TWF T) {x : Nat} (hx : T.kd x = 0) (h0 : x ≠ 0) : lkc T x = 0 := Classical.byContradiction (fun w => by
  obtain ⟨d, n, e⟩ := lkc_ex (Nat.pos_of_ne_zero w)
  have := (h.tg d n (by omega)).1
  rw [e] at this
  exact this hx)
/-- up to the first, however far -/
theorem upN_add (T : TRE) : ∀ (a b d : Nat), upN T (a + b) d = upN T b (upN T a d) := by
  intro a
  induction a with
  | zero => intro b d; rw [Nat.zero_add]; rfl
  | succ a ih =>
    intro b d
    rw [show a + 1 + b = (a + b) + 1 by omega]
    exact ih b (T.par d)
theorem upN_dir {T : TRE} (h3 : ∀ d, T.kd d = 2 → d ≠ 1 → T.kd (T.par d) = 2) : ∀ (m d : Nat), T.kd d = 2 → (∀ j, j < m → upN T j d ≠ 1) → T.kd (upN T m d) = 2 := by
  intro m
  induction m with
  | zero => intro d hd _; exact hd
  | succ m ih =>
    intro d hd hj
    exact ih (T.par d) (h3 d hd (hj 0 (by omega))) (fun j hj' => hj (j + 1) (by omega))
theorem least {p : Nat → Prop} : ∀ (n : Nat), p n → ∃ m, m ≤ n ∧ p m ∧ ∀ j, j < m → ¬ p j := by
  intro n
  induction n using Nat.strongRecOn with
  | ind n ih =>
    intro h
    by_cases c : ∃ j, j < n ∧ p j
    · obtain ⟨j, j1, j2⟩ := c
      obtain ⟨m, m1, m2, m3⟩ := ih j j1 j2
      exact ⟨m, by omega, m2, m3⟩
    · exact ⟨n, Nat.le_refl _, h, fun j hj w => c ⟨j, hj, w⟩⟩
theorem acy_of {T : TRE} (hr : ∀ d, T.kd d = 2 → 1 ≤ d ∧ d ≤ 250) (h1 : T.kd 1 = 2) (h2 : T.par 1 = 0) (h3 : ∀ d, T.kd d = 2 → d ≠ 1 → T.kd (T.par d) = 2) (h4 : ∀ d, T.kd d = 2 → ∃ m, upN T m d = 1) : ACY T := by
  refine ⟨h1, h2, h3, fun d hd => ?_⟩
  obtain ⟨n, hn⟩ := h4 d hd
  obtain ⟨m, -, m2, m3⟩ := least (p := fun m => upN T m d = 1) n hn
  refine ⟨m, ?_, m2⟩
  have hk : ∀ i, i ≤ m → T.kd (upN T i d) = 2 := fun i hi => upN_dir h3 i d hd (fun j hj => m3 j (by omega))
  have inj : ∀ i j, i < j → j ≤ m → upN T i d ≠ upN T j d := fun i j hij hj e => by
    have e1 : upN T (i + (m - j)) d = upN T (j + (m - j)) d := by rw [upN_add, upN_add, e]
    rw [show j + (m - j) = m by omega, m2] at e1
    exact m3 (i + (m - j)) (by omega) e1
  have := cnt_le (A := m + 1) (B := 250) (f := fun i => upN T i d - 1) (p := fun _ => True) (q := fun _ => True) (fun i hi _ => by
    have := hr _ (hk i (by omega))
    exact ⟨by omega, trivial⟩) (fun i j hi hj _ _ e => by
    have a := hr _ (hk i (by omega))
    have b := hr _ (hk j (by omega))
    have e : upN T i d - 1 = upN T j d - 1 := e
    rcases Nat.lt_trichotomy i j with q | q | q
    · exact absurd (show upN T i d = upN T j d by omega) (inj i j q (by omega))
    · exact q
    · exact absurd (show upN T j d = upN T i d by omega) (inj j i q (by omega)))
  rw [sm_congr (g := fun _ => 1) (fun i _ => if_pos trivial), sm_const, sm_congr (g := fun _ => 1) (n := 250) (fun i _ => if_pos trivial), sm_const] at this
  omega
theorem upN_par {T T' : TRE} (h : T'.par = T.par) : ∀ m d, upN T' m d = upN T m d := by
  intro m
  induction m with
  | zero => intro d; rfl
  | succ m ih =>
    intro d
    show upN T' m (T'.par d) = upN T m (T.par d)
    rw [h]
    exact ih _
/-- a new one -/
theorem twf_new {T : TRE} (h : TWF T) (hr : TFA T) {id k d n l : Nat} (hi1 : 1 ≤ id) (hi2 : id ≤ 250) (h0 : T.kd id = 0) (hk : k = 1 ∨ k = 2) (hd : T.kd d = 2) (hnl : NL n l) (hen : T.ent d n = 0) {lp : Nat} (hl2 : k = 2 → lp = d) (hl1 : k = 1 → lp = 1) : TWF ((newT T id k lp).put d n id) := by
  have hdi : d ≠ id := fun e => by rw [e, h0] at hd; omega
  have hd2 := (hr.rng d (by omega)).2.1
  have hn := NL_lt hnl
  have e0 : ∀ m, T.ent id m = 0 := fun m => h.noe id m (by omega)
  obtain ⟨T', eT⟩ : ∃ T', T' = (newT T id k lp).put d n id := ⟨_, rfl⟩
  have kd : ∀ e, T'.kd e = if e = id then k else T.kd e := fun e => by rw [eT]; rfl
  have lk : ∀ e, T'.lk e = if e = id then lp else T.lk e := fun e => by rw [eT]; rfl
  have pa : ∀ e, T'.par e = if e = id then lp else T.par e := fun e => by rw [eT]; rfl
  have ne : (newT T id k lp).ent = T.ent := by
    funext e
    show va_up T.ent id (fun _ => 0) e = T.ent e
    by_cases c : e = id
    · rw [c, va_up_self]; funext m; exact (e0 m).symm
    · exact va_up_ne _ _ c
  have en : ∀ e m, T'.ent e m = if e = d ∧ m = n then id else T.ent e m := fun e m => by
    rw [eT]
    by_cases c : e = d
    · rw [c]
      by_cases c2 : m = n
      · rw [c2, put_en, if_pos ⟨rfl, rfl⟩]
      · rw [put_e1 _ c2, if_neg (fun w => c2 w.2), ne]
    · rw [put_e2 _ c, if_neg (fun w => c w.1), ne]
  have lc : ∀ x, x ≠ 0 → lkc T' x = lkc T x + if id = x then 1 else 0 := fun x hx => by
    have := lkc_put (newT T id k lp) (v := id) hd2 hn x
    rw [← eT, lkc_eq ne, ne, hen, if_neg (show ¬ 0 = x by omega)] at this
    omega
  have tgo : ∀ e m, T.ent e m ≠ 0 → T.ent e m ≠ id := fun e m q w => by
    have := (h.tg e m q).1
    rw [w] at this
    exact this h0
  have h1 : (1 : Nat) ≠ id := fun w => by
    have := h.ac.1
    rw [w, h0] at this
    omega
  rw [← eT]
  refine ⟨fun e m q => ?_, fun e m q => ?_, fun e m q => ?_, fun f q => ?_, fun x q w => ?_, fun e m q => ?_, ?_⟩
  · rw [kd] at q
    rw [en]
    by_cases c : e = id
    · rw [if_neg (fun w => hdi (by rw [← w.1, c])), c]; exact e0 m
    · rw [if_neg c] at q
      rw [if_neg (fun w => by rw [w.1] at q; exact q hd)]
      exact h.noe e m q
  · rw [en] at q
    by_cases c : e = d ∧ m = n
    · rw [c.2]; exact ⟨l, hnl⟩
    · rw [if_neg c] at q; exact h.nl e m q
  · rw [en] at q ⊢
    by_cases c : e = d ∧ m = n
    · rw [if_pos c, kd, if_pos rfl]; exact ⟨by omega, Ne.symm h1⟩
    · rw [if_neg c] at q ⊢
      rw [kd, if_neg (tgo e m q)]
      exact h.tg e m q
  · rw [kd] at q
    rw [lk]
    by_cases c : f = id
    · rw [if_pos c] at q
      have h9 := h.no h0 (by omega)
      have h8 := lc id (by omega)
      rw [if_pos rfl] at h8
      rw [if_pos c, hl1 q, c]
      omega
    · rw [if_neg c] at q
      have := (hr.rng f (by omega)).1
      have h8 := lc f (by omega)
      rw [if_neg (Ne.symm c)] at h8
      have h9 := h.lk f q
      rw [if_neg c]
      omega
  · rw [kd] at q
    by_cases c : x = id
    · have h9 := h.no h0 (by omega)
      have h8 := lc id (by omega)
      rw [if_pos rfl] at h8
      rw [c]
      omega
    · rw [if_neg c] at q
      have := (hr.rng x (by omega)).1
      have h8 := lc x (by omega)
      rw [if_neg (Ne.symm c)] at h8
      have h9 := h.dl x q w
      omega
  · rw [en] at q ⊢
    by_cases c : e = d ∧ m = n
    · rw [if_pos c, kd, if_pos rfl] at q
      rw [if_pos c, pa, if_pos rfl, hl2 q, c.1]
    · rw [if_neg c] at q ⊢
      have e0' : T.ent e m ≠ 0 := fun w => by
        rw [w, kd, if_neg (by omega)] at q
        have := (hr.rng 0 (by omega)).1
        omega
      rw [kd, if_neg (tgo e m e0')] at q
      rw [pa, if_neg (tgo e m e0')]
      exact h.pr e m q
  · obtain ⟨a1, a2, a3, a4⟩ := h.ac
    have p1 : T'.par 1 = 0 := by rw [pa, if_neg h1]; exact a2
    have up : ∀ m e, T.kd e = 2 → upN T m e = 1 → ∃ m', upN T' m' e = 1 := by
      intro m
      induction m with
      | zero => intro e _ q; exact ⟨0, q⟩
      | succ m ih =>
        intro e he q
        by_cases c1 : e = 1
        · exact ⟨0, c1⟩
        · obtain ⟨m', hm'⟩ := ih (T.par e) (a3 e he c1) q
          refine ⟨m' + 1, ?_⟩
          show upN T' m' (T'.par e) = 1
          rw [pa, if_neg (fun w => by rw [w, h0] at he; omega)]
          exact hm'
    refine acy_of (fun e q => ?_) ?_ p1 (fun e q w => ?_) (fun e q => ?_)
    · rw [kd] at q
      by_cases c : e = id
      · omega
      · rw [if_neg c] at q
        have := hr.rng e (by omega)
        omega
    · rw [kd, if_neg h1]; exact a1
    · rw [kd] at q
      rw [pa]
      by_cases c : e = id
      · rw [if_pos c] at q
        rw [if_pos c, hl2 q, kd, if_neg hdi]; exact hd
      · rw [if_neg c] at q
        have := a3 e q w
        rw [if_neg c, kd, if_neg (fun v => by rw [v, h0] at this; omega)]
        exact this
    · rw [kd] at q
      by_cases c : e = id
      · rw [if_pos c] at q
        obtain ⟨m, -, hm⟩ := a4 d hd
        obtain ⟨m', hm'⟩ := up m d hd hm
        refine ⟨m' + 1, ?_⟩
        show upN T' m' (T'.par e) = 1
        rw [pa, if_pos c, hl2 q]
        exact hm'
      · rw [if_neg c] at q
        obtain ⟨m, -, hm⟩ := a4 e q
        exact up m e q hm
/-- one more name -/
theorem twf_link {T : TRE} (h : TWF T) (hr : TFA T) {f d n l : Nat} (hf : T.kd f = 1) (hd : T.kd d = 2) (hnl : NL n l) (hen : T.ent d n = 0) : TWF ((T.put d n f).wLk (va_up T.lk f (T.lk f + 1))) := by
  have hd2 := (hr.rng d (by omega)).2.1
  have hn := NL_lt hnl
  have hf1 := (hr.rng f (by omega)).1
  obtain ⟨T', eT⟩ : ∃ T', T' = (T.put d n f).wLk (va_up T.lk f (T.lk f + 1)) := ⟨_, rfl⟩
  have kd : T'.kd = T.kd := by rw [eT]; rfl
  have pa : T'.par = T.par := by rw [eT]; rfl
  have lk : ∀ e, T'.lk e = if e = f then T.lk f + 1 else T.lk e := fun e => by rw [eT]; rfl
  have et : T'.ent = (T.put d n f).ent := by rw [eT]; rfl
  have en : ∀ e m, T'.ent e m = if e = d ∧ m = n then f else T.ent e m := fun e m => by
    rw [et]
    by_cases c : e = d
    · rw [c]
      by_cases c2 : m = n
      · rw [c2, put_en, if_pos ⟨rfl, rfl⟩]
      · rw [put_e1 _ c2, if_neg (fun w => c2 w.2)]
    · rw [put_e2 _ c, if_neg (fun w => c w.1)]
  have lc : ∀ x, x ≠ 0 → lkc T' x = lkc T x + if f = x then 1 else 0 := fun x hx => by
    have := lkc_put T (v := f) hd2 hn x
    rw [hen, if_neg (show ¬ 0 = x by omega)] at this
    rw [lkc_eq et]
    omega
  rw [← eT]
  refine ⟨fun e m q => ?_, fun e m q => ?_, fun e m q => ?_, fun g q => ?_, fun x q w => ?_, fun e m q => ?_, ?_⟩
  · rw [kd] at q
    rw [en, if_neg (fun w => by rw [w.1] at q; exact q hd)]
    exact h.noe e m q
  · rw [en] at q
    by_cases c : e = d ∧ m = n
    · rw [c.2]; exact ⟨l, hnl⟩
    · rw [if_neg c] at q; exact h.nl e m q
  · rw [en] at q ⊢
    rw [kd]
    by_cases c : e = d ∧ m = n
    · rw [if_pos c]
      refine ⟨by omega, fun w => ?_⟩
      have := h.ac.1
      rw [← w] at this
      omega
    · rw [if_neg c] at q ⊢
      exact h.tg e m q
  · rw [kd] at q
    have := (hr.rng g (by omega)).1
    have h8 := lc g (by omega)
    have h9 := h.lk g q
    rw [lk]
    by_cases c : g = f
    · rw [if_pos c.symm] at h8
      rw [if_pos c, ← c]
      omega
    · rw [if_neg (Ne.symm c)] at h8
      rw [if_neg c]
      omega
  · rw [kd] at q
    have := (hr.rng x (by omega)).1
    have h8 := lc x (by omega)
    rw [if_neg (fun w => by rw [← w] at q; omega)] at h8
    have h9 := h.dl x q w
    omega
  · rw [kd, en] at q
    rw [pa, en]
    by_cases c : e = d ∧ m = n
    · rw [if_pos c] at q; omega
    · rw [if_neg c] at q ⊢
      exact h.pr e m q
  · obtain ⟨a1, a2, a3, a4⟩ := h.ac
    unfold ACY
    rw [kd, pa]
    exact ⟨a1, a2, a3, fun e q => by
      obtain ⟨m, m1, m2⟩ := a4 e q
      exact ⟨m, m1, by rw [upN_par pa]; exact m2⟩⟩
/-- a name goes, and what it led to loses one, or goes -/
theorem twf_lose {T : TRE} (h : TWF T) (hr : TFA T) {d n x : Nat} (hx : T.ent d n = x) (h0 : x ≠ 0) (he : T.kd x = 2 → nmc (T.ent x) = 0) : TWF ((T.put d n 0).lose x) := by
  have hd0 : T.ent d n ≠ 0 := by omega
  obtain ⟨hd, hd2, hn⟩ := h.dn hr hd0
  obtain ⟨tg1, tg2⟩ := h.tg d n hd0
  rw [hx] at tg1 tg2
  have hxe : T.kd x = 2 → ∀ m, T.ent x m = 0 := fun q m => Classical.byContradiction (fun w => w (nmc_z (he q) (h.dn hr w).2.2))
  have hdx : d ≠ x := fun w => by
    by_cases c : T.kd x = 2
    · have := hxe c n
      rw [← w] at this
      exact hd0 this
    · rw [← w] at c; exact c hd
  obtain ⟨T', eT⟩ : ∃ T', T' = (T.put d n 0).lose x := ⟨_, rfl⟩
  have en : ∀ e m, T'.ent e m = if e = d ∧ m = n then 0 else T.ent e m := fun e m => by
    rw [eT, lose_ent]
    by_cases c : e = d
    · rw [c]
      by_cases c2 : m = n
      · rw [c2, put_en, if_pos ⟨rfl, rfl⟩]
      · rw [put_e1 _ c2, if_neg (fun w => c2 w.2)]
    · rw [put_e2 _ c, if_neg (fun w => c w.1)]
  have lc : ∀ g, g ≠ 0 → lkc T' g + (if x = g then 1 else 0) = lkc T g := fun g hg => by
    have := lkc_put T (v := 0) hd2 hn g
    rw [hx, if_neg (Ne.symm hg)] at this
    rw [eT, lkc_eq lose_ent]
    omega
  have hlx : lkc T' x + 1 = lkc T x := by
    have := lc x h0
    rw [if_pos rfl] at this
    omega
  have pa : T'.par = T.par := by
    rw [eT]
    unfold TRE.lose TRE.loose
    split
    · rfl
    · split <;> rfl
  have kdn : ∀ e, e ≠ x → T'.kd e = T.kd e := fun e hne => by rw [eT, lose_kd hne]; rfl
  have kdx : T'.kd x = 0 ∧ lkc T' x = 0 ∨ (T.kd x = 1 ∧ T'.kd x = 1 ∧ T'.lk x = lkc T' x) := by
    obtain ⟨-, -, g3⟩ := hr.rng x tg1
    rcases g3 with k | k
    · have hl := h.lk x k
      by_cases c : 1 < T.lk x
      · refine Or.inr ⟨k, ?_, ?_⟩
        · rw [eT]
          unfold TRE.lose TRE.loose
          rw [if_neg (by show ¬ T.kd x = 2; omega), if_pos (by exact c)]
          exact k
        · rw [eT]
          unfold TRE.lose TRE.loose
          rw [if_neg (by show ¬ T.kd x = 2; omega), if_pos (by exact c)]
          show va_up T.lk x (T.lk x - 1) x = lkc ((T.put d n 0).wLk (va_up T.lk x (T.lk x - 1))) x
          rw [va_up_self]
          have e : lkc ((T.put d n 0).wLk (va_up T.lk x (T.lk x - 1))) x = lkc T' x := lkc_eq (by rw [eT, lose_ent]; rfl) x
          rw [e]
          omega
      · refine Or.inl ⟨?_, by omega⟩
        rw [eT]
        unfold TRE.lose TRE.loose
        rw [if_neg (by show ¬ T.kd x = 2; omega), if_neg (by exact c)]
        exact va_up_self _ _ _
    · have := h.dl x k tg2
      refine Or.inl ⟨?_, by omega⟩
      rw [eT]
      unfold TRE.lose
      rw [if_pos (by exact k)]
      exact va_up_self _ _ _
  have lkn : ∀ e, e ≠ x → T'.lk e = T.lk e := fun e hne => by
    rw [eT]
    unfold TRE.lose TRE.loose
    split
    · rfl
    · split
      · exact va_up_ne _ _ hne
      · rfl
  have go : ∀ e m, T'.ent e m ≠ 0 → (T.ent e m = T'.ent e m ∧ T.ent e m ≠ 0) := fun e m q => by
    rw [en] at q ⊢
    by_cases c : e = d ∧ m = n
    · rw [if_pos c] at q; exact absurd rfl q
    · rw [if_neg c] at q ⊢; exact ⟨rfl, q⟩
  have tgx : ∀ e m, T'.ent e m ≠ 0 → T'.kd x = 0 → T'.ent e m ≠ x := fun e m q k w => by
    obtain ⟨g1, g2⟩ := go e m q
    obtain ⟨-, e2, m2⟩ := h.dn hr g2
    have := lkc_one (T := T') e2 m2 w
    rcases kdx with ⟨-, z⟩ | ⟨-, z, -⟩
    · omega
    · omega
  rw [← eT]
  refine ⟨fun e m q => ?_, fun e m q => ?_, fun e m q => ?_, fun g q => ?_, fun g q w => ?_, fun e m q => ?_, ?_⟩
  · rw [en]
    by_cases c : e = d ∧ m = n
    · rw [if_pos c]
    · rw [if_neg c]
      by_cases cx : e = x
      · by_cases k : T.kd x = 2
        · rw [cx]; exact hxe k m
        · exact h.noe e m (by rw [cx]; exact k)
      · rw [kdn e cx] at q
        exact h.noe e m q
  · obtain ⟨g1, g2⟩ := go e m q
    exact h.nl e m g2
  · obtain ⟨g1, g2⟩ := go e m q
    have := h.tg e m g2
    rw [g1] at this
    refine ⟨?_, this.2⟩
    by_cases cx : T'.ent e m = x
    · rw [cx]
      intro k
      exact tgx e m q k cx
    · rw [kdn _ cx]; exact this.1
  · by_cases cx : g = x
    · rw [cx] at q ⊢
      rcases kdx with ⟨z, -⟩ | ⟨-, -, z⟩
      · omega
      · exact z
    · rw [kdn g cx] at q
      have := (hr.rng g (by omega)).1
      have hl := lc g (by omega)
      rw [if_neg (Ne.symm cx)] at hl
      rw [lkn g cx, h.lk g q]
      omega
  · by_cases cx : g = x
    · rw [cx] at q
      rcases kdx with ⟨z, -⟩ | ⟨-, z, -⟩
      · omega
      · omega
    · rw [kdn g cx] at q
      have := (hr.rng g (by omega)).1
      have hl := lc g (by omega)
      rw [if_neg (Ne.symm cx)] at hl
      have := h.dl g q w
      omega
  · rw [pa]
    have q0 : T'.ent e m ≠ 0 := fun v => by
      rw [v] at q
      have h00 : T'.kd 0 = T.kd 0 := kdn 0 (Ne.symm h0)
      rw [h00] at q
      have := (hr.rng 0 (by omega)).1
      omega
    obtain ⟨g1, g2⟩ := go e m q0
    rw [← g1]
    refine h.pr e m ?_
    rw [g1]
    by_cases cx : T'.ent e m = x
    · rw [cx] at q
      rcases kdx with ⟨z, -⟩ | ⟨-, z, -⟩
      · omega
      · omega
    · rw [← kdn _ cx]; exact q
  · obtain ⟨a1, a2, a3, a4⟩ := h.ac
    have k2 : ∀ e, T'.kd e = 2 → e ≠ x ∧ T.kd e = 2 := fun e q => by
      by_cases cx : e = x
      · rw [cx] at q
        rcases kdx with ⟨z, -⟩ | ⟨-, z, -⟩
        · omega
        · omega
      · exact ⟨cx, by rw [← kdn e cx]; exact q⟩
    refine acy_of (fun e q => ?_) ?_ (by rw [pa]; exact a2) (fun e q w => ?_) (fun e q => ?_)
    · have := hr.rng e (by have := (k2 e q).2; omega)
      omega
    · rw [kdn 1 (Ne.symm tg2)]; exact a1
    · obtain ⟨e1, e2⟩ := k2 e q
      have hp := a3 e e2 w
      rw [pa, kdn _ (fun v => ?_)]
      · exact hp
      · rw [v] at hp
        have hl := h.dl e e2 w
        obtain ⟨a, m, hm⟩ := lkc_ex (T := T) (x := e) (by omega)
        have := h.pr a m (by rw [hm]; exact e2)
        rw [hm, v] at this
        have h9 := hxe hp m
        rw [this, hm] at h9
        have := (hr.rng e (by omega)).1
        omega
    · obtain ⟨m, -, m2⟩ := a4 e (k2 e q).2
      exact ⟨m, by rw [upN_par pa]; exact m2⟩
