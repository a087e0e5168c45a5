/-! an empty directory goes; ways up -/
theorem dirEmpty {W : Nat → Nat → Nat} {I e : Nat → Nat} (h : DOK W I e) (hs : I 1 = 0) : (∀ s, s < 48 → I (6 + s) = 0) ∧ ∀ n, e n = 0 := by
  have hz : ∀ s, s < 48 → I (6 + s) = 0 := fun s hs' => by
    have := sm_z (f := fun s => if I (6 + s) = 0 then 0 else 1) (n := 48) (i := s) (by rw [← h.siz]; exact hs) hs'
    refine Classical.byContradiction (fun q => ?_)
    have this : (if I (6 + s) = 0 then 0 else 1) = 0 := this
    rw [if_neg q] at this
    omega
  refine ⟨hz, fun n => ?_⟩
  refine Classical.byContradiction (fun q => ?_)
  obtain ⟨s, s1, s2, -⟩ := h.all n q
  exact s2 (hz s s1)
theorem dropDir_s (FU : Nat) {z0 : NSt} {T R : TRE} {tk : TKS} {PP : Nat → Nat} {ch : List Nat} {d : Nat} (h0 : NW z0 T R tk PP ch) (hd : T.kd d = 2) (hs : zV z0 (z0.2 6 d) 1 = 0) :
    Ev (Log_dropNode FU (nI d) (up z0)) fun r => ∃ y, r = up y ∧ NW y (T.wKd (va_up T.kd d 0)) R tk PP ch ∧ FR z0 y ∧ y.2 8 = z0.2 8 ∧ Uz y = Uz z0 ∧ KC y = KC z0 := by
  obtain ⟨g1, g2, g3⟩ := h0.tok.rng d (by omega)
  have hi := h0.tok.ids d g1 g2
  obtain ⟨hD, -, -⟩ := hi.dir hd
  obtain ⟨k0, -, -⟩ := hi.kd (by omega)
  obtain ⟨hz, hen⟩ := dirEmpty hD hs
  rw [dropNode_z FU h0.wk.lg h0.wk.pb g1 (by omega)]
  have w := h0.wk.gone d
  have dy : DRP z0 (zA (drpZ (z0.2 6 d) z0) 6 d 0) := DRP.gone _ _ _
  obtain ⟨y, ey⟩ : ∃ y, y = zA (drpZ (z0.2 6 d) z0) 6 d 0 := ⟨_, rfl⟩
  rw [← ey] at w dy ⊢
  have y6 : y.2 6 = va_up (z0.2 6) d 0 := by rw [ey, zA2, if_pos rfl, drp_2 _ _ (by decide) (by decide) (by decide)]
  have y6d : y.2 6 d = 0 := by rw [y6, va_up_self]
  have y6n : ∀ n, n ≠ d → y.2 6 n = z0.2 6 n := fun n q => by rw [y6, va_up_ne _ _ q]
  have hsame : ∀ i, i ≠ d → 1 ≤ i → i ≤ 250 → z0.2 6 i ≠ 0 → SAME (zV z0) (zV y) (z0.2 6) (y.2 6) i := fun i q v1 v2 v3 => by
    have hi' := h0.tok.ids i v1 v2
    have hk' : T.kd i ≠ 0 := fun w' => v3 (hi'.pl.mpr w')
    refine ⟨y6n i q, dy.V _, fun w' j hj v => ⟨?_, dy.V _⟩⟩
    rw [(hi'.kd hk').1] at w'
    have h3' := (h0.tok.rng i hk').2.2
    have hr := (hi'.fil (by omega)).2.2.rng j hj v
    exact y6n _ (by omega)
  have ebp : BPL (zV z0) (z0.2 6) = BPL (zV y) (y.2 6) := by
    funext i k
    by_cases q : i = d
    · rw [q, BPL_0 (Or.inl y6d)]
      unfold BPL
      by_cases c : z0.2 6 d = 0 ∨ 250 < d
      · rw [if_pos c]
      · rw [if_neg c, if_pos (by rw [k0, hd])]
        by_cases e : k < 48
        · rw [if_pos e, hz k e]
        · rw [if_neg e]
    · by_cases c : z0.2 6 i = 0 ∨ 250 < i
      · rw [BPL_0 c, BPL_0 (by rw [y6n i q]; exact c)]
      · have c1 : i ≠ 0 := fun w' => c (Or.inl (by rw [w']; exact h0.p0))
        exact ((hsame i q (by omega) (by omega) (fun w' => c (Or.inl w'))).bpl k).symm
  rw [ebp] at w
  refine Ev.ret ⟨y, rfl, ⟨w, ⟨fun i q => ?_, fun i v1 v2 => ?_⟩, fun n n1 n2 => ?_⟩, ⟨fun k _ _ _ _ _ _ _ _ => by rw [dy.1], fun c hc => dy.2 c (by omega) (by omega) (by omega) (by omega)⟩, dy.2 8 (by decide) (by decide) (by decide) (by decide), Uz_frame (fun k _ _ => by rw [dy.1]), KC_congr (dy.2 7 (by decide) (by decide) (by decide) (by decide))⟩
  · have q : va_up T.kd d 0 i ≠ 0 := q
    by_cases c : i = d
    · rw [c, va_up_self] at q; exact absurd rfl q
    · rw [va_up_ne _ _ c] at q
      have := h0.tok.rng i q
      refine ⟨this.1, this.2.1, ?_⟩
      show va_up T.kd d 0 i = 1 ∨ va_up T.kd d 0 i = 2
      rw [va_up_ne _ _ c]; exact this.2.2
  · by_cases c : i = d
    · rw [c]
      have t0 : (T.wKd (va_up T.kd d 0)).kd d = 0 := va_up_self _ _ _
      refine ⟨⟨fun _ => t0, fun _ => y6d⟩, fun q => absurd t0 q, fun q => ?_, fun q => ?_, fun _ n => hen n⟩
      · rw [t0] at q; omega
      · rw [t0] at q; omega
    · exact (h0.tok.ids i v1 v2).same v2 ⟨va_up_ne _ _ c, rfl, rfl, rfl, rfl⟩ (hsame i c v1 v2) (fun q => by rw [y6n i c]; exact q) (fun k _ => dy.V _)
  · rw [y6n n (by omega)] at n2
    obtain ⟨i, j, l1, l2, l3⟩ := h0.led n n1 n2
    obtain ⟨q1, q2, q3⟩ := h0.tok.rng i (by omega)
    have c : i ≠ d := fun q => by rw [q] at l1; omega
    have hpi : z0.2 6 i ≠ 0 := fun w' => by
      have := (h0.tok.ids i q1 q2).pl.mp w'
      omega
    refine ⟨i, j, ?_, l2, ?_⟩
    · show va_up T.kd d 0 i = 1
      rw [va_up_ne _ _ c]; exact l1
    · rw [(hsame i c q1 q2 hpi).nb (by rw [((h0.tok.ids i q1 q2).kd (by omega)).1]; omega), l3]
/-- the way up from a directory -/
def upN (T : TRE) : Nat → Nat → Nat
  | 0, d => d
  | n + 1, d => upN T n (T.par d)
/-- every directory leads up to the first -/
def ACY (T : TRE) : Prop := T.kd 1 = 2 ∧ T.par 1 = 0 ∧ (∀ d, T.kd d = 2 → d ≠ 1 → T.kd (T.par d) = 2) ∧ ∀ d, T.kd d = 2 → ∃ m, m < 250 ∧ upN T m d = 1
def isIn (T : TRE) (d top : Nat) : Prop := ∃ m, m < 250 ∧ upN T m d = top ∧ ∀ j, j < m → upN T j d ≠ 1
theorem isWithin_b (FU : Nat) {z : NSt} {T R : TRE} {tk : TKS} {PP : Nat → Nat} {ch : List Nat} (h : NW z T R tk PP ch) (hA : ACY T) {top : Nat} (ht1 : 1 ≤ top) (ht2 : top ≤ 250) : ∀ (m i n d : Nat), i + m = 250 → m < n → T.kd d = 2 → (∃ k, k < m ∧ upN T k d = 1) → Ev (Tre_isWithin_b5 FU n (nI top) (nI d) (nI i) (up z)) fun r => ∃ v, r = nI v ∧ ((v = 1 ∧ ∃ k, upN T k d = top ∧ ∀ j, j < k → upN T j d ≠ 1) ∨ (v = 0 ∧ ∀ k, (∀ j, j < k → upN T j d ≠ 1) → upN T k d ≠ top)) := by
  intro m
  induction m with
  | zero =>
    intro i n d e1 e2 hd hx
    obtain ⟨k, k1, -⟩ := hx
    omega
  | succ m ih =>
    intro i n d e1 e2 hd hx
    obtain ⟨n, rfl⟩ : ∃ q9, n = q9 + 1 := ⟨n - 1, by omega⟩
    obtain ⟨g1, g2, g3⟩ := h.tok.rng d (by omega)
    unfold Tre_isWithin_b5
    rw [show (250 : Int32) = nI 250 from rfl, if_neg (nI_ge (by omega) (by decide)), if_neg (ne0_I (by omega) (by omega))]
    by_cases c : d = top
    · rw [if_pos (by rw [c])]
      exact Ev.ret ⟨1, rfl, Or.inl ⟨rfl, 0, c, fun j hj => by omega⟩⟩
    · rw [if_neg (fun q => c ((nI_eq (by omega) (by omega)).mp q)), show (2 : Int32) = nI 2 from rfl, Tre_wordOf_z FU h.wk.pb (by omega) (by decide), Option.bind_some, h.wI (by omega) (by decide), ((h.tok.ids d g1 g2).dir hd).2.1, nI_1]
      by_cases c1 : d = 1
      · -- the first directory: nothing above
        rw [c1, hA.2.1]
        obtain ⟨n, rfl⟩ : ∃ q9, n = q9 + 1 := ⟨n - 1, by omega⟩
        unfold Tre_isWithin_b5
        have hno : ∀ k, (∀ j, j < k → upN T j 1 ≠ 1) → upN T k 1 ≠ top := fun k hk q => by
          by_cases k0 : k = 0
          · rw [k0] at q
            exact c (by rw [c1]; exact q)
          · exact hk 0 (by omega) rfl
        by_cases q : i + 1 = 250
        · rw [show (250 : Int32) = nI 250 from rfl, if_pos (nI_le (by omega) (by omega))]
          exact Ev.ret ⟨0, rfl, Or.inr ⟨rfl, hno⟩⟩
        · rw [show (250 : Int32) = nI 250 from rfl, if_neg (nI_ge (by omega) (by decide)), if_pos i00]
          exact Ev.ret ⟨0, rfl, Or.inr ⟨rfl, hno⟩⟩
      · have hx' : ∃ k, k < m ∧ upN T k (T.par d) = 1 := by
          obtain ⟨k, k1, k2⟩ := hx
          by_cases k0 : k = 0
          · rw [k0] at k2
            exact absurd k2 c1
          · refine ⟨k - 1, by omega, ?_⟩
            rw [show k = k - 1 + 1 by omega] at k2
            exact k2
        refine (ih (i + 1) n (T.par d) (by omega) (by omega) (hA.2.2.1 d hd c1) hx').mono ?_
        rintro r ⟨v, rfl, ⟨v1, k, q1, q2⟩ | ⟨v1, q⟩⟩
        · refine ⟨v, rfl, Or.inl ⟨v1, k + 1, q1, fun j hj => ?_⟩⟩
          by_cases j0 : j = 0
          · rw [j0]; exact c1
          · have := q2 (j - 1) (by omega)
            rw [show j = j - 1 + 1 by omega]
            exact this
        · refine ⟨v, rfl, Or.inr ⟨v1, fun k hk w => ?_⟩⟩
          by_cases k0 : k = 0
          · rw [k0] at w
            exact c w
          · rw [show k = k - 1 + 1 by omega] at w
            exact q (k - 1) (fun j hj => hk (j + 1) (by omega)) w
