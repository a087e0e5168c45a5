/-! no more blocks are in use than are counted -/
theorem nb_cnt {z : NSt} {T R : TRE} {tk : TKS} {PP : Nat → Nat} {ch : List Nat} (h : NW z T R tk PP ch) {id : Nat} (hk : T.kd id = 1) : sm (fun j => if NB (zV z) (z.2 6) id j ≠ 0 then 1 else 0) 8 ≤ (if (T.fil id).sm = 1 then 0 else nfN (((T.fil id).sz + 255) / 256)) := by
  obtain ⟨i1, i2, -⟩ := h.tok.rng id (by omega)
  obtain ⟨f1, f2, f3⟩ := (h.tok.ids id i1 i2).fil hk
  have hp0 : z.2 6 id ≠ 0 := fun q => by
    have := (h.tok.ids id i1 i2).pl.mp q
    omega
  have k0 := ((h.tok.ids id i1 i2).kd (by omega)).1
  have hbp : ∀ j i, 1 ≤ j → j ≤ 7 → i < 56 → bpF (zV z) (z.2 6) id (20 + 56 * (j - 1) + i) = if NB (zV z) (z.2 6) id j = 0 then 0 else zV z (z.2 6 (NB (zV z) (z.2 6) id j)) i := fun j i j1 j7 hi => by
    rw [← BPL_nd h hk j1 j7 hi, BPL_f hp0 i2 (by rw [k0, hk]; decide) (by omega)]
  have hlow : ∀ j, 1 ≤ j → j ≤ 7 → NB (zV z) (z.2 6) id j ≠ 0 → ∃ k, 20 + 56 * (j - 1) ≤ k ∧ k < 412 ∧ bpF (zV z) (z.2 6) id k ≠ 0 := fun j j1 j7 q => by
    obtain ⟨i, w1, w2⟩ := f3.ne j j1 j7 q
    exact ⟨20 + 56 * (j - 1) + i, by omega, by omega, by rw [hbp j i j1 j7 w1, if_neg q]; exact w2⟩
  have h0 : NB (zV z) (z.2 6) id 0 ≠ 0 → ∃ j, 3 ≤ j ∧ j ≤ 7 ∧ NB (zV z) (z.2 6) id j ≠ 0 := fun q => by
    obtain ⟨-, i, w1, w2⟩ := f3.ixz q
    refine ⟨3 + i, by omega, by omega, ?_⟩
    have q' : zV z (z.2 6 id) 28 ≠ 0 := q
    unfold NB
    rw [if_neg (by omega), if_neg (by omega), if_neg q', show 3 + i - 3 = i by omega]
    exact w2
  by_cases c : (T.fil id).sm = 1
  · rw [if_pos c]
    have hz := (f1.small c).2
    have hn : ∀ j, j ≤ 7 → NB (zV z) (z.2 6) id j = 0 := fun j hj => by
      refine Classical.byContradiction (fun q => ?_)
      by_cases j0 : j = 0
      · rw [j0] at q
        obtain ⟨j', a1, a2, a3⟩ := h0 q
        obtain ⟨k, -, b2, b3⟩ := hlow j' (by omega) a2 a3
        exact b3 (hz k b2)
      · obtain ⟨k, -, b2, b3⟩ := hlow j (by omega) hj q
        exact b3 (hz k b2)
    rw [sm_zero (fun j hj => if_neg (fun q => q (hn j (by omega))))]
    exact Nat.le_refl _
  · rw [if_neg c]
    obtain ⟨B, eB⟩ : ∃ B, B = ((T.fil id).sz + 255) / 256 := ⟨_, rfl⟩
    rw [← eB]
    have hj : ∀ j, 1 ≤ j → j ≤ 7 → NB (zV z) (z.2 6) id j ≠ 0 → 20 + 56 * (j - 1) < B := fun j j1 j7 q => by
      obtain ⟨k, a1, a2, a3⟩ := hlow j j1 j7 q
      have := f1.lim k a2 a3
      omega
    obtain ⟨D, eD⟩ : ∃ D, D = (if B ≤ 20 then 0 else (B - 20 + 55) / 56) := ⟨_, rfl⟩
    have hD : ∀ j, 1 ≤ j → j ≤ 7 → NB (zV z) (z.2 6) id j ≠ 0 → j ≤ D := fun j j1 j7 q => by
      have := hj j j1 j7 q
      rw [eD, if_neg (by omega)]
      omega
    have hnf : nfN B = if D ≤ 2 then D else D + 1 := by
      unfold nfN
      rw [eD]
      by_cases d : B ≤ 20
      · rw [if_pos d, if_pos d, if_pos (by omega)]
      · rw [if_neg d, if_neg d]
    rw [hnf, show (8 : Nat) = 1 + 7 from rfl, sm_cut]
    have e1 : sm (fun i => if NB (zV z) (z.2 6) id (1 + i) ≠ 0 then 1 else 0) 7 ≤ D := by
      have hle : sm (fun i => if NB (zV z) (z.2 6) id (1 + i) ≠ 0 then 1 else 0) 7 ≤ sm (fun i => if 0 ≤ i ∧ i < (if D < 7 then D else 7) then 1 else 0) 7 := sm_le (fun i hi => by
        by_cases q : NB (zV z) (z.2 6) id (1 + i) ≠ 0
        · have := hD (1 + i) (by omega) (by omega) q
          rw [if_pos q, if_pos ⟨by omega, by split <;> omega⟩]
          exact Nat.le_refl _
        · rw [if_neg q]; exact Nat.zero_le _)
      have h9 : (if D < 7 then D else 7) ≤ 7 ∧ (if D < 7 then D else 7) ≤ D := by split <;> omega
      rw [sm_int (by omega) h9.1] at hle
      omega
    show 0 + (if NB (zV z) (z.2 6) id 0 ≠ 0 then 1 else 0) + _ ≤ _
    by_cases q : NB (zV z) (z.2 6) id 0 ≠ 0
    · rw [if_pos q]
      obtain ⟨j', a1, a2, a3⟩ := h0 q
      have := hD j' (by omega) a2 a3
      rw [if_neg (by omega)]
      omega
    · rw [if_neg q]
      split <;> omega
theorem bl_id {z : NSt} {T R : TRE} {tk : TKS} {PP : Nat → Nat} {ch : List Nat} (h : NW z T R tk PP ch) {id : Nat} (h1 : 1 ≤ id) (h2 : id ≤ 250) : (if z.2 6 id ≠ 0 then 1 else 0) + sm (fun j => if T.kd id = 1 ∧ NB (zV z) (z.2 6) id j ≠ 0 then 1 else 0) 8 + sm (fun k => if BPL (zV z) (z.2 6) id k ≠ 0 then 1 else 0) 412 ≤ blI z id := by
  have hi := h.tok.ids id h1 h2
  by_cases c : T.kd id = 0
  · have hp := hi.pl.mpr c
    rw [if_neg (fun q => q hp), sm_zero (fun j _ => if_neg (fun q => by omega)), sm_zero (fun k _ => if_neg (fun q => q (BPL_0 (Or.inl hp))))]
    exact Nat.zero_le _
  · have hp : z.2 6 id ≠ 0 := fun q => c (hi.pl.mp q)
    obtain ⟨k0, -, -⟩ := hi.kd c
    have hw : ∀ i, i < 64 → wdI z id i = zV z (z.2 6 id) i := fun i hi' => h.wI c hi'
    unfold blI
    rw [hw 0 (by decide), hw 1 (by decide), hw 3 (by decide), hw 4 (by decide), k0, if_pos hp]
    rcases (h.tok.rng id c).2.2 with q | q
    · obtain ⟨f1, f2, f3⟩ := hi.fil q
      have hnb := nb_cnt h q
      have e1 : sm (fun j => if T.kd id = 1 ∧ NB (zV z) (z.2 6) id j ≠ 0 then 1 else 0) 8 = sm (fun j => if NB (zV z) (z.2 6) id j ≠ 0 then 1 else 0) 8 := sm_congr (fun j _ => by
        by_cases d : NB (zV z) (z.2 6) id j ≠ 0
        · rw [if_pos d, if_pos ⟨q, d⟩]
        · rw [if_neg d, if_neg (fun w => d w.2)])
      have e2 : sm (fun k => if BPL (zV z) (z.2 6) id k ≠ 0 then 1 else 0) 412 = zV z (z.2 6 id) 4 := by
        rw [f1.there]
        exact sm_congr (fun k hk => by
          rw [BPL_f hp h2 (by rw [k0, q]; decide) hk]
          exact if01.symm)
      rw [e1, e2, q, if_neg (by decide), if_neg (by decide), f1.sml]
      by_cases d : (T.fil id).sm = 1
      · rw [if_pos d] at hnb ⊢
        have : zV z (z.2 6 id) 4 = 0 := by
          rw [f1.there]
          exact sm_zero (fun k hk => by rw [(f1.small d).2 k hk, if_pos rfl])
        omega
      · rw [if_neg d] at hnb ⊢
        rw [f1.sz]
        omega
    · obtain ⟨f1, f2, f3⟩ := hi.dir q
      have e1 : sm (fun j => if T.kd id = 1 ∧ NB (zV z) (z.2 6) id j ≠ 0 then 1 else 0) 8 = 0 := sm_zero (fun j _ => if_neg (fun w => by omega))
      have e2 : sm (fun k => if BPL (zV z) (z.2 6) id k ≠ 0 then 1 else 0) 412 = zV z (z.2 6 id) 1 := by
        rw [f1.siz, show (412 : Nat) = 48 + 364 from rfl, sm_cut]
        have a2 : sm (fun i => if BPL (zV z) (z.2 6) id (48 + i) ≠ 0 then 1 else 0) 364 = 0 := sm_zero (fun i _ => if_neg (fun w => w (by
          unfold BPL
          rw [if_neg (by omega), if_pos (by rw [k0, q]), if_neg (by omega)])))
        rw [a2, Nat.add_zero]
        refine sm_congr (fun s hs => ?_)
        rw [BPL_d hp h2 (by rw [k0, q]) hs]
        by_cases d : zV z (z.2 6 id) (6 + s) = 0
        · rw [if_pos d, d]; rfl
        · rw [if_neg d, if_pos (f1.slot s hs d).1]
      rw [e1, e2, q, if_pos rfl]
      omega
theorem phys_g {z : NSt} {T R : TRE} {tk : TKS} {PP : Nat → Nat} {ch : List Nat} (h : NW z T R tk PP ch) (g : Nat → Nat) (hg : ∀ id, 1 ≤ id → id ≤ 250 → (if z.2 6 id ≠ 0 then 1 else 0) + sm (fun j => if T.kd id = 1 ∧ NB (zV z) (z.2 6) id j ≠ 0 then 1 else 0) 8 + sm (fun k => if BPL (zV z) (z.2 6) id k ≠ 0 then 1 else 0) 412 ≤ g id) : un z ≤ sm (fun j => g (1 + j)) 250 := by
  have e0 : un z = sm (fun b => if z.2 9 b = 1 then 1 else 0) 2117 + sm (fun b => if z.2 9 b = 2 then 1 else 0) 2117 := by
    unfold un
    rw [← sm_add]
    refine sm_congr (fun b _ => ?_)
    have := h.wk.lg.use2 b
    by_cases c0 : z.2 9 b = 0
    · rw [if_pos c0, if_neg (by omega), if_neg (by omega)]
    · rw [if_neg c0]
      by_cases c1 : z.2 9 b = 1
      · rw [if_pos c1, if_neg (by omega)]
      · rw [if_neg c1, if_pos (by omega)]
  have e1 : sm (fun b => if z.2 9 b = 1 then 1 else 0) 2117 ≤ sm (fun n => if z.2 6 n ≠ 0 then 1 else 0) 2048 :=
    ex_cnt (P := fun b n => z.2 6 n = b ∧ b ≠ 0) (p := fun n => z.2 6 n ≠ 0) (fun b n q => by rw [q.1]; exact q.2) (fun b b' n q q' => by rw [← q.1, ← q'.1]) (fun b q => by
      obtain ⟨q0, n, qn⟩ := (h.wk.tr.2.1 b).mp q
      exact ⟨n, (h.wk.nu n (by rw [qn]; exact q0)).2.1, qn, q0⟩)
  have e2 : sm (fun b => if z.2 9 b = 2 then 1 else 0) 2117 ≤ sm (fun m => if BPL (zV z) (z.2 6) (m / 412) (m % 412) ≠ 0 then 1 else 0) (251 * 412) :=
    ex_cnt (P := fun b m => BPL (zV z) (z.2 6) (m / 412) (m % 412) = b ∧ b ≠ 0) (p := fun m => BPL (zV z) (z.2 6) (m / 412) (m % 412) ≠ 0) (fun b n q => by rw [q.1]; exact q.2) (fun b b' n q q' => by rw [← q.1, ← q'.1]) (fun b q => by
      obtain ⟨q0, id, k, qn⟩ := (h.wk.tr.2.2.1 b).mp q
      obtain ⟨k1, k2, k3⟩ := BPL_k (by rw [qn]; exact q0 : BPL (zV z) (z.2 6) id k ≠ 0)
      refine ⟨id * 412 + k, by omega, ?_, q0⟩
      rw [show (id * 412 + k) / 412 = id by omega, show (id * 412 + k) % 412 = k by omega]
      exact qn)
  have f2 := sm_flat (fun id k => if BPL (zV z) (z.2 6) id k ≠ 0 then 1 else 0) (c := 412) (by decide) 251
  rw [← f2] at e2
  have e3 : sm (fun n => if z.2 6 n ≠ 0 then 1 else 0) 2048 = sm (fun n => if z.2 6 n ≠ 0 then 1 else 0) 251 + sm (fun i => if z.2 6 (251 + i) ≠ 0 then 1 else 0) 1797 := by
    rw [show (2048 : Nat) = 251 + 1797 from rfl, sm_cut]
  have e4 : sm (fun i => if z.2 6 (251 + i) ≠ 0 then 1 else 0) 1797 ≤ sm (fun m => if T.kd (m / 8) = 1 ∧ NB (zV z) (z.2 6) (m / 8) (m % 8) ≠ 0 then 1 else 0) (251 * 8) :=
    ex_cnt (P := fun i m => T.kd (m / 8) = 1 ∧ NB (zV z) (z.2 6) (m / 8) (m % 8) = 251 + i) (p := fun m => T.kd (m / 8) = 1 ∧ NB (zV z) (z.2 6) (m / 8) (m % 8) ≠ 0) (fun b n q => ⟨q.1, by rw [q.2]; omega⟩) (fun b b' n q q' => by have := q.2; have := q'.2; omega) (fun i q => by
      obtain ⟨id, j, l1, l2, l3⟩ := h.led (251 + i) (by omega) q
      obtain ⟨r1, r2, -⟩ := h.tok.rng id (by omega)
      refine ⟨id * 8 + j, by omega, ?_⟩
      rw [show (id * 8 + j) / 8 = id by omega, show (id * 8 + j) % 8 = j by omega]
      exact ⟨l1, l3⟩)
  have f4 := sm_flat (fun id j => if T.kd id = 1 ∧ NB (zV z) (z.2 6) id j ≠ 0 then 1 else 0) (c := 8) (by decide) 251
  rw [← f4] at e4
  have e5 : sm (fun n => if z.2 6 n ≠ 0 then 1 else 0) 251 + sm (fun id => sm (fun j => if T.kd id = 1 ∧ NB (zV z) (z.2 6) id j ≠ 0 then 1 else 0) 8) 251 + sm (fun id => sm (fun k => if BPL (zV z) (z.2 6) id k ≠ 0 then 1 else 0) 412) 251 ≤ sm (fun j => g (1 + j)) 250 := by
    rw [← sm_add, ← sm_add, show (251 : Nat) = 1 + 250 from rfl, sm_cut]
    have k0 : T.kd 0 = 0 := by
      refine Classical.byContradiction (fun q => ?_)
      have := (h.tok.rng 0 q).1
      omega
    have a0 : sm (fun i => (if z.2 6 i ≠ 0 then 1 else 0) + sm (fun j => if T.kd i = 1 ∧ NB (zV z) (z.2 6) i j ≠ 0 then 1 else 0) 8 + sm (fun k => if BPL (zV z) (z.2 6) i k ≠ 0 then 1 else 0) 412) 1 = 0 := sm_zero (fun i hi => by
      have hi0 : i = 0 := by omega
      rw [hi0, if_neg (fun q => q h.p0), sm_zero (fun j _ => if_neg (fun q => by omega)), sm_zero (fun k _ => if_neg (fun q => q (BPL_0 (Or.inl h.p0))))])
    rw [a0, Nat.zero_add]
    exact sm_le (fun i hi => hg (1 + i) (by omega) (by omega))
  omega
theorem phys {z : NSt} {T R : TRE} {tk : TKS} {PP : Nat → Nat} {ch : List Nat} (h : NW z T R tk PP ch) : un z ≤ inUseN z :=
  phys_g h (blI z) (fun _ h1 h2 => bl_id h h1 h2)
