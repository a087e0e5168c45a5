/-! blocks that can be written, that are in use, and the rest -/
abbrev mnB (z : NSt) (b : Nat) : Prop := 69 ≤ b ∧ b < 69 + 16 * z.1 6
abbrev GB (z : NSt) (b : Nat) : Prop := mnB z b ∧ ¬ AV z b ∧ z.2 9 b = 0
def Gz (z : NSt) : Nat := sm (fun b => if GB z b then 1 else 0) 2117
theorem AV_un {z : NSt} (h : LG z) {b : Nat} (h69 : 69 ≤ b) (ha : AV z b) : z.2 5 b = 0 := by
  rcases ha with q | ⟨q1, q2⟩ | ⟨q1, q2⟩
  · have := (h.1.2.2.2.1.1 _ q).2.2 ((b - 69) % 16) (Nat.mod_lt _ (by decide))
    rwa [sg_dec h69] at this
  · exact h.2.1.2.2.2 b q2 q1
  · exact h.2.2.1.2.2.2 b q2 q1
theorem sm_hit1 {n x c : Nat} (hx : x < n) : sm (fun s => if s = x then c else 0) n = c := by
  have e : sm (fun s => if s = x then c else 0) n = sm (va_up (fun _ => 0) x c) n := sm_congr (fun s _ => rfl)
  have := sm_up (f := fun _ => 0) (i := x) (v := c) (n := n) hx
  rw [sm_const] at this
  rw [e]
  omega
theorem sm_below {w : Nat} (hw : w ≤ 16) : sm (fun j => if w ≤ j then 1 else 0) 16 = 16 - w := by
  have e : sm (fun j => if w ≤ j then 1 else 0) (w + (16 - w)) = 16 - w := by
    rw [sm_cut, sm_zero (fun j hj => if_neg (by omega)), sm_congr (g := fun _ => 1) (fun j _ => if_pos (by omega)), sm_const]
    omega
  rwa [show w + (16 - w) = 16 by omega] at e
theorem avn {z : NSt} (h : LG z) : sm (fun b => if mnB z b ∧ AV z b then 1 else 0) 2117 = Uz z := by
  obtain ⟨s1, s2, s3⟩ := h.1.1
  obtain ⟨⟨e1, e2, e3, e4⟩, ⟨d1, d2, d3, d4⟩, hne, -⟩ := h.2
  have hs8 := sg_lt' (z := z) e1 e2
  have hs9 := sg_lt' (z := z) d1 d2
  have hf := h.1.2.2.2.1
  rw [show (2117 : Nat) = 69 + 128 * 16 from rfl, sm_cut]
  have z1 : sm (fun b => if mnB z b ∧ AV z b then 1 else 0) 69 = 0 := sm_zero (fun b hb => if_neg (fun q => by have := q.1.1; omega))
  have e := sm_flat (fun s j => if mnB z (69 + 16 * s + j) ∧ AV z (69 + 16 * s + j) then 1 else 0) (c := 16) (by decide) 128
  have z2 : sm (fun i => if mnB z (69 + i) ∧ AV z (69 + i) then 1 else 0) (128 * 16) = sm (fun i => if mnB z (69 + 16 * (i / 16) + i % 16) ∧ AV z (69 + 16 * (i / 16) + i % 16) then 1 else 0) (128 * 16) := sm_congr (fun i _ => by
    rw [show 69 + 16 * (i / 16) + i % 16 = 69 + i by omega])
  rw [z1, z2, ← e, Nat.zero_add]
  have seg : ∀ s, s < 128 → sm (fun j => if mnB z (69 + 16 * s + j) ∧ AV z (69 + 16 * s + j) then 1 else 0) 16 = 16 * z.2 12 s + ((if s = sg (z.1 8) then 16 - (z.1 8 - 69) % 16 else 0) + (if s = sg (z.1 9) then 16 - (z.1 9 - 69) % 16 else 0)) := fun s hs => by
    by_cases c : z.2 12 s = 0
    · rw [c]
      by_cases c8 : s = sg (z.1 8)
      · have c9 : ¬ s = sg (z.1 9) := fun q => hne (by rw [← c8, q])
        rw [if_pos c8, if_neg c9, ← sm_below (w := (z.1 8 - 69) % 16) (by omega)]
        rw [show ∀ x, 16 * 0 + (x + 0) = x from fun x => by omega]
        refine sm_congr (fun j hj => ?_)
        have hsj : sg (69 + 16 * s + j) = s := sg_of hj
        have hd := sg_dec e1
        by_cases q : (z.1 8 - 69) % 16 ≤ j
        · rw [if_pos q, if_pos]
          refine ⟨⟨by omega, by omega⟩, Or.inr (Or.inl ⟨by rw [hsj, c8], by rw [c8]; omega⟩)⟩
        · rw [if_neg q, if_neg]
          rintro ⟨-, w | ⟨-, w⟩ | ⟨w, -⟩⟩
          · rw [hsj] at w; exact w c
          · rw [c8] at w; omega
          · rw [hsj] at w; exact c9 w
      · rw [if_neg c8]
        by_cases c9 : s = sg (z.1 9)
        · rw [if_pos c9, ← sm_below (w := (z.1 9 - 69) % 16) (by omega)]
          rw [show ∀ x, 16 * 0 + (0 + x) = x from fun x => by omega]
          refine sm_congr (fun j hj => ?_)
          have hsj : sg (69 + 16 * s + j) = s := sg_of hj
          have hd := sg_dec d1
          by_cases q : (z.1 9 - 69) % 16 ≤ j
          · rw [if_pos q, if_pos]
            refine ⟨⟨by omega, by omega⟩, Or.inr (Or.inr ⟨by rw [hsj, c9], by rw [c9]; omega⟩)⟩
          · rw [if_neg q, if_neg]
            rintro ⟨-, w | ⟨w, -⟩ | ⟨-, w⟩⟩
            · rw [hsj] at w; exact w c
            · rw [hsj] at w; exact c8 w
            · rw [c9] at w; omega
        · rw [if_neg c9]
          refine sm_zero (fun j hj => if_neg ?_)
          have hsj : sg (69 + 16 * s + j) = s := sg_of hj
          rintro ⟨-, w | ⟨w, -⟩ | ⟨w, -⟩⟩
          · rw [hsj] at w; exact w c
          · rw [hsj] at w; exact c8 w
          · rw [hsj] at w; exact c9 w
    · obtain ⟨f1, f2, f3⟩ := hf.1 s c
      have c8 : ¬ s = sg (z.1 8) := fun q => c (by rw [q]; exact e3)
      have c9 : ¬ s = sg (z.1 9) := fun q => c (by rw [q]; exact d3)
      rw [if_neg c8, if_neg c9, f1]
      have : sm (fun j => if mnB z (69 + 16 * s + j) ∧ AV z (69 + 16 * s + j) then 1 else 0) 16 = sm (fun _ => 1) 16 := sm_congr (fun j hj => if_pos ⟨⟨by omega, by omega⟩, Or.inl (by rw [sg_of hj]; exact c)⟩)
      rw [this, sm_const]
  rw [sm_congr seg, sm_add, sm_add, sm_mul, sm_hit1 (by omega), sm_hit1 (by omega), ← hf.2]
  unfold Uz
  omega
theorem parts3 {z : NSt} (h : LG z) : Uz z + un z + Gz z = 16 * z.1 6 := by
  have hS := h.1.1.2.1
  have e1 : sm (fun b => if mnB z b then 1 else 0) 2117 = 16 * z.1 6 := by
    rw [show (2117 : Nat) = 69 + (16 * z.1 6 + (2048 - 16 * z.1 6)) by omega, sm_cut, sm_cut]
    have a1 : sm (fun b => if mnB z b then 1 else 0) 69 = 0 := sm_zero (fun b hb => if_neg (fun q => by have := q.1; omega))
    have a2 : sm (fun i => if mnB z (69 + i) then 1 else 0) (16 * z.1 6) = sm (fun _ => 1) (16 * z.1 6) := sm_congr (fun i hi => if_pos ⟨by omega, by omega⟩)
    have a3 : sm (fun i => if mnB z (69 + (16 * z.1 6 + i)) then 1 else 0) (2048 - 16 * z.1 6) = 0 := sm_zero (fun i hi => if_neg (fun q => by have := q.2; omega))
    rw [a1, a2, a3, sm_const]
    omega
  rw [← e1, ← avn h]
  unfold un Gz
  rw [← sm_add, ← sm_add]
  refine sm_congr (fun b hb => ?_)
  by_cases u : z.2 9 b = 0
  · rw [if_pos u]
    by_cases m : mnB z b
    · by_cases v : AV z b
      · rw [if_pos ⟨m, v⟩, if_neg (fun q => q.2.1 v), if_pos m]
      · rw [if_neg (fun q => v q.2), if_pos ⟨m, v, u⟩, if_pos m]
    · rw [if_neg (fun q => m q.1), if_neg (fun q => m q.1), if_neg m]
  · obtain ⟨-, u2, u3, u4⟩ := h.1.2.1 b u
    have hna : ¬ AV z b := fun q => by
      have := AV_un h u2 q
      omega
    rw [if_neg u, if_neg (fun q => hna q.2), if_neg (fun q => u q.2.2), if_pos ⟨u2, u3⟩]
theorem RR_sur {z : NSt} {T R : TRE} {tk : TKS} {PP : Nat → Nat} {ch : List Nat} (h : NW z T R tk PP ch) {id k : Nat} (h0 : BPL (zV z) (z.2 6) id k ≠ 0) : ∃ m i, m < 2048 ∧ RR (zV z) (z.2 6) m i = BPL (zV z) (z.2 6) id k := by
  obtain ⟨k1, k2, k3⟩ := BPL_k h0
  have i0 : 1 ≤ id := (h.wk.nu id k2).1
  have hi := h.tok.ids id i0 k3
  have hk : T.kd id ≠ 0 := fun q => k2 (hi.pl.mpr q)
  obtain ⟨kd0, k58, k61⟩ := hi.kd hk
  rcases (h.tok.rng id hk).2.2 with q | q
  · have eb := BPL_f (W := zV z) (P := z.2 6) (id := id) (k := k) k2 k3 (by rw [kd0, q]; decide) k1
    by_cases c : k < 20
    · refine ⟨id, 6 + k, by omega, ?_⟩
      have e1 : bpF (zV z) (z.2 6) id k = zV z (z.2 6 id) (6 + k) := if_pos c
      have hr := h.wk.tr.rb h.wk.lg h0
      rw [eb, e1] at hr ⊢
      unfold RR ptw
      rw [if_neg k2, k58, kd0, q, if_pos (show pFr 0 ≤ 6 + k ∧ 6 + k < pFr 0 + pNo 0 1 from ⟨by show 6 ≤ 6 + k; omega, by show 6 + k < 6 + 20; omega⟩)]
      omega
    · obtain ⟨j, ej⟩ : ∃ j, j = 1 + (k - 20) / 56 := ⟨_, rfl⟩
      have e1 : bpF (zV z) (z.2 6) id k = if NB (zV z) (z.2 6) id j = 0 then 0 else zV z (z.2 6 (NB (zV z) (z.2 6) id j)) ((k - 20) % 56) := by
        rw [ej]
        unfold bpF
        rw [if_neg c]
      have hn : NB (zV z) (z.2 6) id j ≠ 0 := fun v => h0 (by rw [eb, e1, if_pos v])
      have hrn := (hi.fil q).2.2.rng j (by omega) hn
      rw [if_neg hn] at e1
      have hr := h.wk.tr.rb h.wk.lg h0
      rw [eb, e1] at hr ⊢
      refine ⟨NB (zV z) (z.2 6) id j, (k - 20) % 56, hrn.2.1, ?_⟩
      have h58 : zV z (z.2 6 (NB (zV z) (z.2 6) id j)) 58 = 1 := by rw [hrn.2.2.2.2, if_neg (by omega)]
      unfold RR ptw
      rw [if_neg hrn.2.2.1, h58]
      have hp1 : pFr 1 = 0 := rfl
      have hp2 : pNo 1 (zV z (z.2 6 (NB (zV z) (z.2 6) id j)) 0) = 56 := rfl
      rw [hp1, hp2, if_pos (show 0 ≤ (k - 20) % 56 ∧ (k - 20) % 56 < 0 + 56 by omega)]
      omega
  · by_cases c : k < 48
    · refine ⟨id, 6 + k, by omega, ?_⟩
      rw [BPL_d k2 k3 (by rw [kd0, q]) c]
      unfold RR ptw
      rw [if_neg k2, k58, kd0, q, if_pos (show pFr 0 ≤ 6 + k ∧ 6 + k < pFr 0 + pNo 0 2 from ⟨by show 6 ≤ 6 + k; omega, by show 6 + k < 6 + 48; omega⟩)]
    · exfalso
      apply h0
      unfold BPL
      rw [if_neg (by omega), if_pos (by rw [kd0, q]), if_neg c]
/-- when all is moved, nothing in the chosen segments is in use -/
theorem MLP.out {a x : NSt} {T R : TRE} {tk : TKS} {PP : Nat → Nat} {ch : List Nat} (h : MLP a x T R tk PP ch 2048) {b : Nat} (hv : vic a b) : x.2 9 b = 0 := by
  refine Classical.byContradiction (fun q => ?_)
  have hb0 : b ≠ 0 := fun v => vic0 a (by rw [← v]; exact hv)
  rcases (h.nw.wk.lg.1.2.1 b q).1 with w | w
  · obtain ⟨-, m, e⟩ := (h.nw.wk.tr.2.1 b).mp w
    have hm := (h.nw.wk.nu m (by rw [e]; exact hb0)).2.1
    exact (h.v1 m hm).1 (by rw [e]; exact hv)
  · obtain ⟨-, id, k, e⟩ := (h.nw.wk.tr.2.2.1 b).mp w
    obtain ⟨m, i, hm, e2⟩ := RR_sur h.nw (by rw [e]; exact hb0 : BPL (zV x) (x.2 6) id k ≠ 0)
    exact (h.v1 m hm).2 i (by rw [e2, e]; exact hv)
