/-! the model: one id changes; make, link, unlink, remove directory -/
theorem MI.one {w y : NSt} {A : AB} {T' : TRE} {rn' : Nat → Bool} {x : Nat} (h : MI w A) (hp : PO y) (hs : ∀ k, k ≠ 0 → k ≠ 11 → y.1 k = w.1 k) (ha : ∀ a, a = 0 ∨ a = 1 ∨ a = 6 ∨ a = 9 ∨ 11 ≤ a → y.2 a = w.2 a) (hb : ∀ a, a = 2 ∨ a = 3 ∨ a = 4 ∨ a = 5 ∨ a = 7 → ∀ j, j ≠ x → y.2 a j = w.2 a j) (h8 : ∀ l id p, l ≤ 2 → id ≤ 250 → p < 391 → ¬ (l = 0 ∧ id = x) → y.2 8 (pcN l id p) = w.2 8 (pcN l id p)) (x2 : x ≤ 250) (te : T'.ent = A.T.ent) (tk : ∀ id, id ≠ x → T'.kd id = A.T.kd id) (tl : ∀ id, id ≠ x → T'.lk id = A.T.lk id) (tf : ∀ id, id ≠ x → T'.fil id = A.T.fil id) (tr : ∀ id, id ≠ x → rn' id = A.rn id) (kx : y.2 2 x = T'.kd x) (lx : T'.kd x = 1 → y.2 4 x = T'.lk x) (rx : y.2 7 x ≤ 1 ∧ (T'.kd x = 1 → y.2 7 x = if rn' x = true then 1 else 0)) (fx : (T'.kd x = 1 → PV y 0 x (T'.fil x)) ∧ (T'.kd x ≠ 1 → PN0 y 0 x)) : MI y ((A.w_T T').w_rn rn') := by
  have e9 := ha 9 (by omega)
  refine h.chg (fun k k0 k11 _ => hs k k0 k11) (fun a q => ha a (by omega)) rfl rfl rfl rfl rfl rfl rfl rfl rfl rfl rfl rfl rfl rfl ?_ (fun id i1 i2 => ?_) (fun id i1 i2 => ?_) (fun id i1 i2 => ?_) (fun id i1 i2 => ?_) (fun id i1 i2 => ?_) (fun id i1 i2 => ?_) hp
  · show EN y 11 12 13 14 (y.1 12) T'.ent
    rw [te, hs 12 (by decide) (by decide)]
    exact h.en.keep (ha 11 (by omega)) (ha 12 (by omega)) (ha 13 (by omega)) (ha 14 (by omega))
  · show y.2 2 id = T'.kd id ∧ _
    rw [hb 2 (by omega) (251 + id) (by omega)]
    refine ⟨?_, (h.kd id i1 i2).2⟩
    by_cases c : id = x
    · rw [c]; exact kx
    · rw [hb 2 (by omega) id c, tk id c]; exact (h.kd id i1 i2).1
  · show (T'.kd id = 1 → y.2 4 id = T'.lk id) ∧ _
    rw [hb 4 (by omega) (251 + id) (by omega)]
    refine ⟨?_, (h.lk id i1 i2).2⟩
    by_cases c : id = x
    · rw [c]; exact lx
    · rw [hb 4 (by omega) id c, tk id c, tl id c]; exact (h.lk id i1 i2).1
  · show y.2 7 id ≤ 1 ∧ (T'.kd id = 1 → y.2 7 id = if rn' id = true then 1 else 0)
    by_cases c : id = x
    · rw [c]; exact rx
    · rw [hb 7 (by omega) id c, tk id c, tr id c]; exact h.rn id i1 i2
  · show (T'.kd id = 1 → PV y 0 id (T'.fil id)) ∧ (T'.kd id ≠ 1 → PN0 y 0 id)
    by_cases c : id = x
    · rw [c]; exact fx
    · rw [tk id c, tf id c]
      have q8 : ∀ p, p < 391 → y.2 8 (pcN 0 id p) = w.2 8 (pcN 0 id p) := fun p hp => h8 0 id p (by decide) i2 hp (by omega)
      exact ⟨fun q => ((h.f0 id i1 i2).1 q).mv (hb 3 (by omega) _ (by omega)) (hb 5 (by omega) _ (by omega)) q8 e9, fun q => ((h.f0 id i1 i2).2 q).mv q8⟩
  · have q8 : ∀ p, p < 391 → y.2 8 (pcN 1 id p) = w.2 8 (pcN 1 id p) := fun p hp => h8 1 id p (by decide) i2 hp (by omega)
    exact ⟨fun q => ((h.f1 id i1 i2).1 q).mv (hb 3 (by omega) _ (by omega)) (hb 5 (by omega) _ (by omega)) q8 e9, fun q => ((h.f1 id i1 i2).2 q).mv q8⟩
  · have q8 : ∀ p, p < 391 → y.2 8 (pcN 2 id p) = w.2 8 (pcN 2 id p) := fun p hp => h8 2 id p (by decide) i2 hp (by omega)
    exact ⟨fun q => ((h.f2 id i1 i2).1 q).mv (hb 3 (by omega) _ (by omega)) (hb 5 (by omega) _ (by omega)) q8 e9, fun q => ((h.f2 id i1 i2).2 q).mv q8⟩
theorem PO.up {w y : NSt} (h : PO w) (y1 : y.1 11 = w.1 11) (y8 : y.2 8 = w.2 8) (y10 : y.2 10 = w.2 10) (hw : ∀ a i, y.2 a i < 2 ^ 32) : PO y := h.keep (by rw [y1]; exact h.se) y8 y10 hw
theorem zA_wd {w : NSt} (h : ∀ a i, w.2 a i < 2 ^ 32) (a i : Nat) {v : Nat} (hv : v < 2 ^ 32) : ∀ b j, (zA w a i v).2 b j < 2 ^ 32 := fun b j => by
  rw [zA2]
  split
  · unfold va_up
    split
    · exact hv
    · exact h a j
  · exact h b j
theorem zA_ne (w : NSt) (a i v b j : Nat) (hj : j ≠ i) : (zA w a i v).2 b j = w.2 b j := by
  rw [zA2]
  split
  · rename_i e
    rw [va_up_ne _ _ hj, e]
  · rfl
/-- how many entries -/
theorem ents_le {w : NSt} {A : AB} {s : Nat} (h : MI w A) (hA : AI A s) (hT : TFA A.T) : w.1 12 ≤ 1664 := by
  have hrow : ∀ k, k < w.1 12 → sm (fun j => if w.2 11 k = 1 + j then 1 else 0) 250 = 1 := fun k hk => by
    obtain ⟨e1, e2, -⟩ := h.en.en k hk
    have kd : A.T.kd (w.2 11 k) = 2 := Classical.byContradiction (fun q => by
      rw [hA.tw.noe _ _ q] at e1
      exact e2 e1.symm)
    obtain ⟨r1, r2, -⟩ := hT.rng _ (by rw [kd]; decide)
    exact sm_uniq (P := fun j => w.2 11 k = 1 + j) (x := w.2 11 k - 1) (by omega) (show w.2 11 k = 1 + (w.2 11 k - 1) by omega) (fun y _ (q : w.2 11 k = 1 + y) => by omega)
  have e : w.1 12 = sm (fun j => nmc (A.T.ent (1 + j))) 250 := by
    have a : sm (fun k => sm (fun j => if w.2 11 k = 1 + j then 1 else 0) 250) (w.1 12) = w.1 12 := by
      rw [sm_congr (g := fun _ => 1) hrow, sm_const, Nat.mul_one]
    rw [sm_swap] at a
    rw [← a]
    exact sm_congr (fun j _ => h.en.cnt (1 + j))
  obtain ⟨m, m1, -, m3⟩ := hA.mx
  have b : sm (fun j => nmc (A.T.ent (1 + j))) 250 ≤ sm (fun j => m (1 + j)) 250 := sm_le (fun j _ => by
    have q := (m1 (1 + j)).1
    unfold auT at q
    by_cases c : A.T.kd (1 + j) = 2
    · rw [if_pos c] at q
      exact Nat.le_trans (Nat.le_add_left _ 1) q
    · have z : nmc (A.T.ent (1 + j)) = 0 := by
        unfold nmc
        exact sm_zero (fun n _ => if_pos (hA.tw.noe _ _ c))
      rw [z]
      exact Nat.zero_le _)
  have r := hA.rb
  rw [e]
  exact Nat.le_trans b (Nat.le_trans (Nat.le_trans (Nat.le_add_right _ _) m3) r)
/-- one name less -/
theorem loosen_z {FU : Nat} (hF : 140000 < FU) {w : NSt} {A : AB} (h : MI w A) {f : Nat} (f1 : 1 ≤ f) (f2 : f ≤ 250) (hk : A.T.kd f = 1) (l1 : 1 ≤ A.T.lk f) (l2 : A.T.lk f < 2 ^ 31) : Ev (Mod_loosen FU (nI f) (up w)) fun r => ∃ y, r = (nI (looseN A.T f), up y) ∧ MI y ((A.w_T (A.T.loose f)).w_rn (va_up A.rn f true)) ∧ y.1 0 = w.1 0 := by
  have el := (h.lk f f1 f2).1 hk
  have ek := (h.kd f f1 f2).1
  unfold Mod_loosen
  rw [rdA_z w 4 (by omega) (by decide), Option.bind_some, el, show (1 : Int32) = nI 1 from rfl, pk_sub l1, wrA_z w 4 (by omega) (by decide), Option.bind_some, show nz (nI 1) = nI 1 by decide, wrA_z _ 7 (by omega) (by decide), Option.bind_some]
  obtain ⟨x, ex⟩ : ∃ x, x = zA (zA w 4 f (A.T.lk f - 1)) 7 f 1 := ⟨_, rfl⟩
  have x4 : x.2 4 = va_up (w.2 4) f (A.T.lk f - 1) := by rw [ex, zA2, if_neg (by decide), zA2, if_pos rfl]
  have x7 : x.2 7 = va_up (w.2 7) f 1 := by rw [ex, zA2, if_pos rfl, zA2, if_neg (by decide)]
  have xa : ∀ a, a ≠ 4 → a ≠ 7 → x.2 a = w.2 a := fun a a4 a7 => by rw [ex, zA2, if_neg a7, zA2, if_neg a4]
  have x1 : x.1 = w.1 := by rw [ex]; rfl
  have hp : PO x := h.po.up (by rw [x1]) (xa 8 (by decide) (by decide)) (xa 10 (by decide) (by decide)) (by rw [ex]; exact zA_wd (zA_wd h.po.wd 4 f (by omega)) 7 f (by decide))
  rw [← ex, rdA_z x 4 (by omega) (by decide), Option.bind_some, x4, va_up_self]
  have rnx : ∀ id, id ≠ f → va_up A.rn f true id = A.rn id := fun id c => by unfold va_up; rw [if_neg c]
  have rnf : (if va_up A.rn f true f = true then 1 else 0) = 1 := by unfold va_up; rw [if_pos rfl]; rfl
  unfold TRE.loose looseN
  by_cases c : 1 < A.T.lk f
  · rw [if_neg (show ¬ nI (A.T.lk f - 1) = (0 : Int32) from ne0_I (by omega) (by omega)), Option.bind_some, if_pos c, if_pos c]
    refine Ev.ret ⟨x, rfl, ?_, by rw [x1]⟩
    refine h.one (x := f) hp (fun k _ _ => by rw [x1]) (fun a q => xa a (by omega) (by omega)) (fun a q j hj => ?_) (fun l id p _ _ _ _ => by rw [xa 8 (by decide) (by decide)]) f2 rfl (fun _ _ => rfl) (fun id c => ?_) (fun _ _ => rfl) rnx ?_ (fun _ => ?_) ?_ ?_
    · rw [ex, zA_ne _ _ _ _ _ _ hj, zA_ne _ _ _ _ _ _ hj]
    · show va_up A.T.lk f (A.T.lk f - 1) id = _
      rw [va_up_ne _ _ c]
    · rw [xa 2 (by decide) (by decide), ek]; rfl
    · show x.2 4 f = va_up A.T.lk f (A.T.lk f - 1) f
      rw [x4, va_up_self, va_up_self]
    · rw [x7, va_up_self, rnf]; exact ⟨by decide, fun _ => rfl⟩
    · refine ⟨fun _ => ?_, fun q => absurd hk q⟩
      exact ((h.f0 f f1 f2).1 hk).keep (xa 3 (by decide) (by decide)) (xa 5 (by decide) (by decide)) (xa 8 (by decide) (by decide)) (xa 9 (by decide) (by decide))
  · have l0 : A.T.lk f - 1 = 0 := by omega
    rw [if_pos (show nI (A.T.lk f - 1) = (0 : Int32) by rw [l0]; rfl), if_neg c, if_neg c, show (0 : Int32) = nI 0 from rfl]
    refine (drop_z hF hp (l := 0) (by decide) f2).bd ?_
    rintro _ ⟨v, rfl, v1, v2, v3, v4, v5, v6⟩
    rw [show 251 * 0 + f = f by omega] at v4 v5
    rw [rdA_z v 4 (by omega) (by decide), Option.bind_some, v3 4 (by decide) (by decide) (by decide) (by decide), x4, va_up_self, l0]
    refine Ev.ret ⟨v, rfl, ?_, by rw [v2, x1]⟩
    have k0 : (A.T.wKd (va_up A.T.kd f 0)).kd f = 0 := va_up_self _ _ _
    refine h.one (x := f) v1 (fun k _ _ => by rw [v2, x1]) (fun a q => by rw [v3 a (by omega) (by omega) (by omega) (by omega), xa a (by omega) (by omega)]) (fun a q j hj => ?_) (fun l id p hl hid hp hne => ?_) f2 rfl (fun id c => ?_) (fun _ _ => rfl) (fun _ _ => rfl) rnx ?_ (fun q => ?_) ?_ ?_
    · have q2 : v.2 a j = x.2 a j := by
        rcases q with q | q | q | q | q
        · rw [q, v4, va_up_ne _ _ hj]
        · rw [q, v5, va_up_ne _ _ hj]
        · rw [q, v3 4 (by decide) (by decide) (by decide) (by decide)]
        · rw [q, v3 5 (by decide) (by decide) (by decide) (by decide)]
        · rw [q, v3 7 (by decide) (by decide) (by decide) (by decide)]
      rw [q2, ex, zA_ne _ _ _ _ _ _ hj, zA_ne _ _ _ _ _ _ hj]
    · rw [v6, if_neg (fun q => hne ?_), xa 8 (by decide) (by decide)]
      unfold pcN at q
      omega
    · show va_up A.T.kd f 0 id = _
      rw [va_up_ne _ _ c]
    · rw [v4, va_up_self, k0]
    · rw [k0] at q; cases q
    · rw [v3 7 (by decide) (by decide) (by decide) (by decide), x7, va_up_self]
      exact ⟨by decide, fun q => by rw [k0] at q; cases q⟩
    · refine ⟨fun q => absurd (k0.symm.trans q) (by decide), fun _ p hp => ?_⟩
      rw [v6, if_pos (by unfold pcN; omega)]
/-- a directory goes -/
theorem dropD_z {FU : Nat} (hF : 140000 < FU) {w : NSt} {A : AB} (h : MI w A) {f : Nat} (f2 : f ≤ 250) (hr : w.2 7 f ≤ 1) : Ev (Mod_drop FU (nI f) (0 : Int32) (up w)) fun r => ∃ y, r = up y ∧ MI y (A.w_T (A.T.wKd (va_up A.T.kd f 0))) ∧ y.1 = w.1 ∧ ∀ a, 11 ≤ a → y.2 a = w.2 a := by
  rw [show (0 : Int32) = nI 0 from rfl]
  refine (drop_z hF h.po (l := 0) (by decide) f2).mono ?_
  rintro _ ⟨v, rfl, v1, v2, v3, v4, v5, v6⟩
  rw [show 251 * 0 + f = f by omega] at v4 v5
  have k0 : (A.T.wKd (va_up A.T.kd f 0)).kd f = 0 := va_up_self _ _ _
  refine ⟨v, rfl, ?_, v2, fun a a1 => v3 a (by omega) (by omega) (by omega) (by omega)⟩
  have := h.one (T' := A.T.wKd (va_up A.T.kd f 0)) (rn' := A.rn) (x := f) v1 (fun k _ _ => by rw [v2]) (fun a q => v3 a (by omega) (by omega) (by omega) (by omega)) (fun a q j hj => ?_) (fun l id p hl hid hp hne => ?_) f2 rfl (fun id c => ?_) (fun _ _ => rfl) (fun _ _ => rfl) (fun _ _ => rfl) ?_ (fun q => ?_) ?_ ?_
  · exact this
  · rcases q with q | q | q | q | q
    · rw [q, v4, va_up_ne _ _ hj]
    · rw [q, v5, va_up_ne _ _ hj]
    · rw [q, v3 4 (by decide) (by decide) (by decide) (by decide)]
    · rw [q, v3 5 (by decide) (by decide) (by decide) (by decide)]
    · rw [q, v3 7 (by decide) (by decide) (by decide) (by decide)]
  · rw [v6, if_neg (fun q => hne ?_)]
    unfold pcN at q
    omega
  · show va_up A.T.kd f 0 id = _
    rw [va_up_ne _ _ c]
  · rw [v4, va_up_self, k0]
  · rw [k0] at q; cases q
  · rw [v3 7 (by decide) (by decide) (by decide) (by decide)]
    exact ⟨hr, fun q => by rw [k0] at q; cases q⟩
  · refine ⟨fun q => absurd (k0.symm.trans q) (by decide), fun _ p hp => ?_⟩
    rw [v6, if_pos (by unfold pcN; omega)]
