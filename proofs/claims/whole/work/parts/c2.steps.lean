/-! the model: entries come and go -/
def entP (ent : Nat → Nat → Nat) (d n v : Nat) : Nat → Nat → Nat := va_up ent d (va_up (ent d) n v)
theorem entP_e (ent : Nat → Nat → Nat) (d n v e m : Nat) : entP ent d n v e m = if e = d ∧ m = n then v else ent e m := by
  unfold entP
  by_cases c : e = d
  · rw [c, va_up_self]
    by_cases c2 : m = n
    · rw [c2, va_up_self, if_pos ⟨rfl, rfl⟩]
    · rw [va_up_ne _ _ c2, if_neg (fun w => c2 w.2)]
  · rw [va_up_ne _ _ c, if_neg (fun w => c w.1)]
def EL (E : Nat) (D I N L : Nat → Nat) (ent : Nat → Nat → Nat) : Prop := (∀ k, k < E → ent (D k) (N k) = I k ∧ I k ≠ 0 ∧ I k ≤ 250) ∧ (∀ k, k < E → NL (N k) (L k)) ∧ (∀ k k', k < E → k' < E → D k = D k' → N k = N k' → k = k') ∧ (∀ d n, ent d n ≠ 0 → ∃ k, k < E ∧ D k = d ∧ N k = n)
theorem EL.en {E : Nat} {D I N L : Nat → Nat} {ent : Nat → Nat → Nat} (h9 : EL E D I N L ent) : ∀ k, k < E → ent (D k) (N k) = I k ∧ I k ≠ 0 ∧ I k ≤ 250 := h9.1
theorem EL.nl {E : Nat} {D I N L : Nat → Nat} {ent : Nat → Nat → Nat} (h9 : EL E D I N L ent) : ∀ k, k < E → NL (N k) (L k) := h9.2.1
theorem EL.dis {E : Nat} {D I N L : Nat → Nat} {ent : Nat → Nat → Nat} (h9 : EL E D I N L ent) : ∀ k k', k < E → k' < E → D k = D k' → N k = N k' → k = k' := h9.2.2.1
theorem EL.all {E : Nat} {D I N L : Nat → Nat} {ent : Nat → Nat → Nat} (h9 : EL E D I N L ent) : ∀ d n, ent d n ≠ 0 → ∃ k, k < E ∧ D k = d ∧ N k = n := h9.2.2.2
theorem EN.el {w : NSt} {bd bi bl bn E : Nat} {ent : Nat → Nat → Nat} (h : EN w bd bi bl bn E ent) : EL E (w.2 bd) (w.2 bi) (nmK w bl bn) (w.2 bl) ent := ⟨h.en, h.nl, h.dis, h.all⟩
theorem EL.cg {E : Nat} {D I N L D' I' N' L' : Nat → Nat} {ent : Nat → Nat → Nat} (h : EL E D I N L ent) (hc : ∀ k, k < E → D' k = D k ∧ I' k = I k ∧ N' k = N k ∧ L' k = L k) : EL E D' I' N' L' ent := by
  refine ⟨fun k hk => ?_, fun k hk => ?_, fun k k' hk hk' a b => ?_, fun d n q => ?_⟩
  · obtain ⟨a, b, c, d⟩ := hc k hk
    rw [a, b, c]; exact h.en k hk
  · obtain ⟨a, b, c, d⟩ := hc k hk
    rw [c, d]; exact h.nl k hk
  · obtain ⟨a1, b1, c1, d1⟩ := hc k hk
    obtain ⟨a2, b2, c2, d2⟩ := hc k' hk'
    rw [a1, a2] at a
    rw [c1, c2] at b
    exact h.dis k k' hk hk' a b
  · obtain ⟨k, k1, k2, k3⟩ := h.all d n q
    obtain ⟨a, b, c, d⟩ := hc k k1
    exact ⟨k, k1, by rw [a]; exact k2, by rw [c]; exact k3⟩
theorem EL.add {E : Nat} {D I N L : Nat → Nat} {ent : Nat → Nat → Nat} (h : EL E D I N L ent) {d n id l : Nat} (h0 : ent d n = 0) (hl : NL n l) (hi1 : id ≠ 0) (hi2 : id ≤ 250) {D' I' N' L' : Nat → Nat} (hc : ∀ k, k < E → D' k = D k ∧ I' k = I k ∧ N' k = N k ∧ L' k = L k) (he : D' E = d ∧ I' E = id ∧ N' E = n ∧ L' E = l) : EL (E + 1) D' I' N' L' (entP ent d n id) := by
  have hno : ∀ k, k < E → ¬ (D k = d ∧ N k = n) := fun k hk w => by
    have := h.en k hk
    rw [w.1, w.2, h0] at this
    omega
  obtain ⟨e1, e2, e3, e4⟩ := he
  refine ⟨fun k hk => ?_, fun k hk => ?_, fun k k' hk hk' a b => ?_, fun e m q => ?_⟩
  · by_cases c : k = E
    · rw [c, e1, e2, e3, entP_e, if_pos ⟨rfl, rfl⟩]; exact ⟨rfl, hi1, hi2⟩
    · obtain ⟨a, b, c', d'⟩ := hc k (by omega)
      rw [a, b, c', entP_e, if_neg (hno k (by omega))]
      exact h.en k (by omega)
  · by_cases c : k = E
    · rw [c, e3, e4]; exact hl
    · obtain ⟨a, b, c', d'⟩ := hc k (by omega)
      rw [c', d']; exact h.nl k (by omega)
  · by_cases c : k = E
    · by_cases c2 : k' = E
      · omega
      · obtain ⟨a2, b2, c2', d2⟩ := hc k' (by omega)
        rw [c, e1, a2] at a
        rw [c, e3, c2'] at b
        exact absurd ⟨a.symm, b.symm⟩ (hno k' (by omega))
    · obtain ⟨a1, b1, c1, d1⟩ := hc k (by omega)
      by_cases c2 : k' = E
      · rw [c2, e1, a1] at a
        rw [c2, e3, c1] at b
        exact absurd ⟨a, b⟩ (hno k (by omega))
      · obtain ⟨a2, b2, c2', d2⟩ := hc k' (by omega)
        rw [a1, a2] at a
        rw [c1, c2'] at b
        exact h.dis k k' (by omega) (by omega) a b
  · rw [entP_e] at q
    by_cases c : e = d ∧ m = n
    · exact ⟨E, by omega, by rw [e1, c.1], by rw [e3, c.2]⟩
    · rw [if_neg c] at q
      obtain ⟨k, k1, k2, k3⟩ := h.all e m q
      obtain ⟨a, b, c', d'⟩ := hc k k1
      exact ⟨k, by omega, by rw [a]; exact k2, by rw [c']; exact k3⟩
theorem EL.rem {E : Nat} {D I N L : Nat → Nat} {ent : Nat → Nat → Nat} (h : EL (E + 1) D I N L ent) {k : Nat} (hk : k ≤ E) {D' I' N' L' : Nat → Nat} (hc : ∀ j, j < E → D' j = D (if j = k then E else j) ∧ I' j = I (if j = k then E else j) ∧ N' j = N (if j = k then E else j) ∧ L' j = L (if j = k then E else j)) : EL E D' I' N' L' (entP ent (D k) (N k) 0) := by
  have src : ∀ j, j < E → (if j = k then E else j) < E + 1 ∧ (if j = k then E else j) ≠ k := fun j hj => by
    split <;> omega
  have inj : ∀ j j', j < E → j' < E → (if j = k then E else j) = (if j' = k then E else j') → j = j' := fun j j' hj hj' e => by
    by_cases c : j = k
    · rw [if_pos c] at e
      by_cases c2 : j' = k
      · omega
      · rw [if_neg c2] at e; omega
    · rw [if_neg c] at e
      by_cases c2 : j' = k
      · rw [if_pos c2] at e; omega
      · rw [if_neg c2] at e; exact e
  refine ⟨fun j hj => ?_, fun j hj => ?_, fun j j' hj hj' a b => ?_, fun e m q => ?_⟩
  · obtain ⟨a, b, c, d⟩ := hc j hj
    obtain ⟨s1, s2⟩ := src j hj
    rw [a, b, c, entP_e, if_neg (fun w => s2 (h.dis _ k s1 (by omega) w.1 w.2))]
    exact h.en _ s1
  · obtain ⟨a, b, c, d⟩ := hc j hj
    rw [c, d]; exact h.nl _ (src j hj).1
  · obtain ⟨a1, b1, c1, d1⟩ := hc j hj
    obtain ⟨a2, b2, c2, d2⟩ := hc j' hj'
    rw [a1, a2] at a
    rw [c1, c2] at b
    exact inj j j' hj hj' (h.dis _ _ (src j hj).1 (src j' hj').1 a b)
  · rw [entP_e] at q
    by_cases c : e = D k ∧ m = N k
    · rw [if_pos c] at q; exact absurd rfl q
    · rw [if_neg c] at q
      obtain ⟨i, i1, i2, i3⟩ := h.all e m q
      have ik : i ≠ k := fun v => c (by rw [← v]; exact ⟨i2.symm, i3.symm⟩)
      by_cases ci : i = E
      · obtain ⟨a, b, c', d'⟩ := hc k (by omega)
        rw [if_pos rfl] at a c'
        exact ⟨k, by omega, by rw [a, ← ci]; exact i2, by rw [c', ← ci]; exact i3⟩
      · obtain ⟨a, b, c', d'⟩ := hc i (by omega)
        rw [if_neg ik] at a c'
        exact ⟨i, by omega, by rw [a]; exact i2, by rw [c']; exact i3⟩
theorem EL.set {E : Nat} {D I N L : Nat → Nat} {ent : Nat → Nat → Nat} (h : EL E D I N L ent) {b id : Nat} (hb : b < E) (hi1 : id ≠ 0) (hi2 : id ≤ 250) : EL E D (va_up I b id) N L (entP ent (D b) (N b) id) := by
  refine ⟨fun k hk => ?_, h.nl, h.dis, fun e m q => ?_⟩
  · rw [entP_e]
    by_cases c : k = b
    · rw [c, va_up_self, if_pos ⟨rfl, rfl⟩]; exact ⟨rfl, hi1, hi2⟩
    · rw [va_up_ne _ _ c, if_neg (fun w => c (h.dis k b hk hb w.1 w.2))]
      exact h.en k hk
  · rw [entP_e] at q
    by_cases c : e = D b ∧ m = N b
    · exact ⟨b, hb, c.1.symm, c.2.symm⟩
    · rw [if_neg c] at q
      exact h.all e m q
theorem EL.mov {E : Nat} {D I N L : Nat → Nat} {ent : Nat → Nat → Nat} (h : EL E D I N L ent) {a o n l : Nat} (ha : a < E) (h0 : ent o n = 0) (hl : NL n l) {D' N' L' : Nat → Nat} (hc : ∀ k, k < E → k ≠ a → D' k = D k ∧ N' k = N k ∧ L' k = L k) (he : D' a = o ∧ N' a = n ∧ L' a = l) : EL E D' I N' L' (entP (entP ent (D a) (N a) 0) o n (I a)) := by
  obtain ⟨e1, e2, e3⟩ := he
  have hno : ∀ k, k < E → ¬ (D k = o ∧ N k = n) := fun k hk w => by
    have := h.en k hk
    rw [w.1, w.2, h0] at this
    omega
  refine ⟨fun k hk => ?_, fun k hk => ?_, fun k k' hk hk' p q => ?_, fun e m q => ?_⟩
  · by_cases c : k = a
    · rw [c, e1, e2, entP_e, if_pos ⟨rfl, rfl⟩]
      exact ⟨rfl, (h.en a ha).2⟩
    · obtain ⟨c1, c2, c3⟩ := hc k hk c
      rw [c1, c2, entP_e, if_neg (hno k hk), entP_e, if_neg (fun w => c (h.dis k a hk ha w.1 w.2))]
      exact h.en k hk
  · by_cases c : k = a
    · rw [c, e2, e3]; exact hl
    · obtain ⟨c1, c2, c3⟩ := hc k hk c
      rw [c2, c3]; exact h.nl k hk
  · by_cases c : k = a
    · by_cases c' : k' = a
      · omega
      · obtain ⟨c1, c2, c3⟩ := hc k' hk' c'
        rw [c, e1, c1] at p
        rw [c, e2, c2] at q
        exact absurd ⟨p.symm, q.symm⟩ (hno k' hk')
    · obtain ⟨c1, c2, c3⟩ := hc k hk c
      by_cases c' : k' = a
      · rw [c', e1, c1] at p
        rw [c', e2, c2] at q
        exact absurd ⟨p, q⟩ (hno k hk)
      · obtain ⟨d1, d2, d3⟩ := hc k' hk' c'
        rw [c1, d1] at p
        rw [c2, d2] at q
        exact h.dis k k' hk hk' p q
  · rw [entP_e] at q
    by_cases c : e = o ∧ m = n
    · exact ⟨a, ha, by rw [e1, c.1], by rw [e2, c.2]⟩
    · rw [if_neg c, entP_e] at q
      by_cases c' : e = D a ∧ m = N a
      · rw [if_pos c'] at q; exact absurd rfl q
      · rw [if_neg c'] at q
        obtain ⟨k, k1, k2, k3⟩ := h.all e m q
        have ka : k ≠ a := fun v => c' (by rw [← v]; exact ⟨k2.symm, k3.symm⟩)
        obtain ⟨c1, c2, c3⟩ := hc k k1 ka
        exact ⟨k, k1, by rw [c1]; exact k2, by rw [c2]; exact k3⟩
/-! the frame -/
theorem MI.chg {w y : NSt} {A B : AB} (h : MI w A) (hs : ∀ k, k ≠ 0 → k ≠ 11 → k ≠ 12 → y.1 k = w.1 k) (ha : ∀ a, a = 0 ∨ a = 1 ∨ a = 6 ∨ 15 ≤ a → y.2 a = w.2 a) (e1 : B.tp = A.tp) (e2 : B.tl = A.tl) (e3 : B.tb = A.tb) (e4 : B.ol = A.ol) (e5 : B.dv = A.dv) (e6 : B.ct = A.ct) (e7 : B.us = A.us) (e8 : B.fr = A.fr) (e9 : B.tk = A.tk) (e10 : B.rm = A.rm) (e11 : B.fw = A.fw) (eO : B.O = A.O) (eS : B.S = A.S) (eF : B.F = A.F) (en : EN y 11 12 13 14 (y.1 12) B.T.ent) (kd : ∀ id, 1 ≤ id → id ≤ 250 → y.2 2 id = B.T.kd id ∧ y.2 2 (251 + id) = A.O.kd id) (lk : ∀ id, 1 ≤ id → id ≤ 250 → (B.T.kd id = 1 → y.2 4 id = B.T.lk id) ∧ (A.O.kd id = 1 → y.2 4 (251 + id) = A.O.lk id)) (rn : ∀ id, 1 ≤ id → id ≤ 250 → y.2 7 id ≤ 1 ∧ (B.T.kd id = 1 → y.2 7 id = if B.rn id = true then 1 else 0)) (f0 : ∀ id, 1 ≤ id → id ≤ 250 → (B.T.kd id = 1 → PV y 0 id (B.T.fil id)) ∧ (B.T.kd id ≠ 1 → PN0 y 0 id)) (f1 : ∀ id, 1 ≤ id → id ≤ 250 → (A.O.kd id = 1 → PV y 1 id (A.O.fil id)) ∧ (A.O.kd id ≠ 1 → PN0 y 1 id)) (f2 : ∀ id, 1 ≤ id → id ≤ 250 → (A.S id = true → PV y 2 id (A.F id)) ∧ (A.S id ≠ true → PN0 y 2 id)) (po : PO y) : MI y B := by
  refine ⟨?_, ?_, ?_, ?_, ?_, ?_, ?_, ?_, en, ?_, ?_, ?_, ?_, rn, f0, ?_, ?_, po⟩
  · rw [e5, hs 1 (by decide) (by decide) (by decide), hs 2 (by decide) (by decide) (by decide)]; exact h.dv
  · rw [e7, e8, e9, e10, e11, hs 3 (by decide) (by decide) (by decide), hs 4 (by decide) (by decide) (by decide), hs 5 (by decide) (by decide) (by decide), hs 6 (by decide) (by decide) (by decide), hs 7 (by decide) (by decide) (by decide)]; exact h.ms
  · rw [e6, hs 8 (by decide) (by decide) (by decide)]; exact h.ct
  · rw [e5, e6]; exact h.cd
  · rw [e2, hs 9 (by decide) (by decide) (by decide)]; exact h.tl
  · rw [e4, hs 10 (by decide) (by decide) (by decide)]; exact h.ol
  · rw [e1, ha 0 (by omega)]; exact h.tp
  · rw [e3, e4, ha 1 (by omega)]; exact h.tb
  · rw [eO, hs 13 (by decide) (by decide) (by decide)]; exact h.eo.keep (ha 15 (by omega)) (ha 16 (by omega)) (ha 17 (by omega)) (ha 18 (by omega))
  · rw [eO]; exact kd
  · rw [eO]; exact lk
  · rw [eS, ha 6 (by omega)]; exact h.sy
  · rw [eO]; exact f1
  · rw [eS, eF]; exact f2
/-- only the entries change -/
theorem MI.ents {w y : NSt} {A : AB} (h : MI w A) (hs : ∀ k, k ≠ 0 → k ≠ 12 → y.1 k = w.1 k) (ha : ∀ a, a ≤ 10 ∨ 15 ≤ a → y.2 a = w.2 a) (hw : ∀ a i, y.2 a i < 2 ^ 32) {ent' : Nat → Nat → Nat} (en : EN y 11 12 13 14 (y.1 12) ent') : MI y (A.w_T (A.T.wEnt ent')) := by
  refine h.chg (fun k k0 _ k12 => hs k k0 k12) (fun a q => ha a (by omega)) rfl rfl rfl rfl rfl rfl rfl rfl rfl rfl rfl rfl rfl rfl en ?_ ?_ ?_ ?_ ?_ ?_ ?_
  · rw [ha 2 (by omega)]; exact h.kd
  · rw [ha 4 (by omega)]; exact h.lk
  · rw [ha 7 (by omega)]; exact h.rn
  · intro id i1 i2
    refine ⟨fun q => ((h.f0 id i1 i2).1 q).keep (ha 3 (by omega)) (ha 5 (by omega)) (ha 8 (by omega)) (ha 9 (by omega)), fun q p hp => ?_⟩
    rw [ha 8 (by omega)]; exact (h.f0 id i1 i2).2 q p hp
  · intro id i1 i2
    refine ⟨fun q => ((h.f1 id i1 i2).1 q).keep (ha 3 (by omega)) (ha 5 (by omega)) (ha 8 (by omega)) (ha 9 (by omega)), fun q p hp => ?_⟩
    rw [ha 8 (by omega)]; exact (h.f1 id i1 i2).2 q p hp
  · intro id i1 i2
    refine ⟨fun q => ((h.f2 id i1 i2).1 q).keep (ha 3 (by omega)) (ha 5 (by omega)) (ha 8 (by omega)) (ha 9 (by omega)), fun q p hp => ?_⟩
    rw [ha 8 (by omega)]; exact (h.f2 id i1 i2).2 q p hp
  · exact h.po.keep (by rw [hs 11 (by decide) (by decide)]; exact h.po.se) (ha 8 (by omega)) (ha 10 (by omega)) hw
theorem put_is (T : TRE) (d n v : Nat) : T.wEnt (entP T.ent d n v) = T.put d n v := rfl
/-! a name is written into an entry -/
theorem nameEntry_b (FU : Nat) {w : NSt} {A : AB} (h : MI w A) {k fr n : Nat} (hk : k < 2400) (hfr : fr + n ≤ 2060) (hn : n ≤ 20) : ∀ (m i q : Nat) (y : NSt), i + m = n → m < q → y.1 = w.1 → (∀ a, a ≠ 11 → a ≠ 13 → a ≠ 14 → y.2 a = w.2 a) → (∀ j, y.2 14 j = if 20 * k ≤ j ∧ j < 20 * k + i then w.2 0 (fr + (j - 20 * k)) else w.2 14 j) →
    Ev (Mod_nameEntry_b18 FU q (nI k) (nI fr) (nI n) (nI i) (up y)) fun r => ∃ x, r = up x ∧ x.1 = w.1 ∧ (∀ a, a ≠ 11 → a ≠ 13 → a ≠ 14 → x.2 a = w.2 a) ∧ x.2 11 = y.2 11 ∧ x.2 13 = y.2 13 ∧ ∀ j, x.2 14 j = if 20 * k ≤ j ∧ j < 20 * k + n then w.2 0 (fr + (j - 20 * k)) else w.2 14 j := by
  intro m
  induction m with
  | zero =>
    intro i q y h1 h2 y1 ya y14
    obtain ⟨q, rfl⟩ : ∃ q9, q = q9 + 1 := ⟨q - 1, by omega⟩
    have h1 : i = n := h1
    subst h1
    unfold Mod_nameEntry_b18
    rw [if_pos (nI_le (Nat.le_refl _) (by omega))]
    exact Ev.ret ⟨y, rfl, y1, ya, rfl, rfl, y14⟩
  | succ m ih =>
    intro i q y h1 h2 y1 ya y14
    obtain ⟨q, rfl⟩ : ∃ q9, q = q9 + 1 := ⟨q - 1, by omega⟩
    unfold Mod_nameEntry_b18
    obtain ⟨t1, t2⟩ := h.tp (fr + i) (by omega)
    rw [if_neg (nI_ge (by omega) (by omega)), nI_add, rdA_z y 0 (by omega) (by decide), Option.bind_some, ya 0 (by decide) (by decide) (by decide), t1, nby_s t2, show (20 : Int32) * nI k = nI (20 * k) from pk_mul 20 k, nI_add, wrA_z y 14 (by omega) (by decide), Option.bind_some, nI_1, ← t1]
    obtain ⟨x, ex⟩ : ∃ x, x = zA y 14 (20 * k + i) (w.2 0 (fr + i)) := ⟨_, rfl⟩
    rw [← ex]
    have xa : ∀ a, a ≠ 14 → x.2 a = y.2 a := fun a ha => by rw [ex, zA2, if_neg ha]
    refine (ih (i + 1) q x (by omega) (by omega) (by rw [ex]; exact y1) (fun a a1 a2 a3 => by rw [xa a a3]; exact ya a a1 a2 a3) (fun j => ?_)).mono ?_
    · rw [ex, zA2, if_pos rfl]
      show (if j = 20 * k + i then w.2 0 (fr + i) else y.2 14 j) = _
      rw [y14]
      by_cases c : j = 20 * k + i
      · rw [if_pos c, if_pos (by omega), c, show 20 * k + i - 20 * k = i by omega]
      · rw [if_neg c]
        by_cases d : 20 * k ≤ j ∧ j < 20 * k + i
        · rw [if_pos d, if_pos (by omega)]
        · rw [if_neg d, if_neg (by omega)]
    · rintro _ ⟨z, rfl, z1, z2, z3, z4, z5⟩
      exact ⟨z, rfl, z1, z2, by rw [z3, xa 11 (by decide)], by rw [z4, xa 13 (by decide)], z5⟩
theorem nameEntry_z {FU : Nat} (hF : 140000 < FU) {w : NSt} {A : AB} (h : MI w A) {k d fr n : Nat} (hk : k < 2400) (hfr : fr + n ≤ 2060) (hn : n ≤ 20) :
    Ev (Mod_nameEntry FU (nI k) (nI d) (nI fr) (nI n) (up w)) fun r => ∃ x, r = up x ∧ x.1 = w.1 ∧ (∀ a, a ≠ 11 → a ≠ 13 → a ≠ 14 → x.2 a = w.2 a) ∧ x.2 11 = va_up (w.2 11) k d ∧ x.2 13 = va_up (w.2 13) k n ∧ ∀ j, x.2 14 j = if 20 * k ≤ j ∧ j < 20 * k + n then w.2 0 (fr + (j - 20 * k)) else w.2 14 j := by
  unfold Mod_nameEntry
  rw [wrA_z w 11 hk (by decide), Option.bind_some, wrA_z _ 13 hk (by decide), Option.bind_some, show (0 : Int32) = nI 0 from rfl]
  refine (nameEntry_b FU h hk hfr hn n 0 FU (zA (zA w 11 k d) 13 k n) (by omega) (by omega) rfl (fun a a1 a2 _ => by rw [zA2, if_neg a2, zA2, if_neg a1]) (fun j => by rw [zA2, if_neg (by decide), zA2, if_neg (by decide), if_neg (by omega)])).mono ?_
  rintro _ ⟨x, rfl, x1, x2, x3, x4, x5⟩
  refine ⟨x, rfl, x1, x2, ?_, ?_, x5⟩
  · rw [x3, zA2, if_neg (by decide), zA2, if_pos rfl]
  · rw [x4, zA2, if_pos rfl, zA2, if_neg (by decide)]
/-- the name of an entry that was written -/
theorem nmK_new {w x : NSt} {A : AB} (h : MI w A) {k fr n : Nat} (hok : nmOk A.tp A.tl fr n = true) (h13 : x.2 13 = va_up (w.2 13) k n) (h14 : ∀ j, x.2 14 j = if 20 * k ≤ j ∧ j < 20 * k + n then w.2 0 (fr + (j - 20 * k)) else w.2 14 j) : nmK x 13 14 k = nmN A.tp fr n ∧ ∀ i, i < n → x.2 14 (20 * k + i) = sxN (x.2 14 (20 * k + i) % 256) := by
  obtain ⟨o1, o2, o3⟩ := nmOk_le hok
  have htl := h.tl.2
  have e : ∀ i, i < n → x.2 14 (20 * k + i) = sxN (A.tp (fr + i)) := fun i hi => by
    rw [h14, if_pos (by omega), show 20 * k + i - 20 * k = i by omega, (h.tp (fr + i) (by omega)).1]
  refine ⟨?_, fun i hi => by rw [e i hi, sxN_md (h.tp (fr + i) (by omega)).2]⟩
  unfold nmK nmN
  refine hn_congr (fun i _ => ?_)
  rw [h13, va_up_self]
  by_cases c : i < n
  · rw [if_pos c, if_pos c, e i c, sxN_md (h.tp (fr + i) (by omega)).2]
  · rw [if_neg c, if_neg c]
theorem nmK_old {w x : NSt} {k k' n : Nat} (hne : k' ≠ k) (hn : n ≤ 20) (hl : w.2 13 k' ≤ 20) (h13 : x.2 13 k' = w.2 13 k') (h14 : ∀ j, (j < 20 * k ∨ 20 * k + n ≤ j) → x.2 14 j = w.2 14 j) : nmK x 13 14 k' = nmK w 13 14 k' ∧ ∀ i, i < w.2 13 k' → x.2 14 (20 * k' + i) = w.2 14 (20 * k' + i) := by
  have e : ∀ i, i < w.2 13 k' → x.2 14 (20 * k' + i) = w.2 14 (20 * k' + i) := fun i hi => h14 _ (by
    rcases Nat.lt_or_gt_of_ne hne with q | q
    · left; omega
    · right; omega)
  refine ⟨?_, e⟩
  unfold nmK
  refine hn_congr (fun i _ => ?_)
  rw [h13]
  by_cases c : i < w.2 13 k'
  · rw [if_pos c, if_pos c, e i c]
  · rw [if_neg c, if_neg c]
theorem EN.l20 {w : NSt} {bd bi bl bn E : Nat} {ent : Nat → Nat → Nat} (h : EN w bd bi bl bn E ent) {k : Nat} (hk : k < E) : w.2 bl k ≤ 20 := (h.nl k hk).2.1
theorem addEntry_z {FU : Nat} (hF : 140000 < FU) {w : NSt} {A : AB} (h : MI w A) (tp' : Nat → Nat) (tl' : Nat) {d n id : Nat} (hE : w.1 12 < 2400) (hd : d < 2 ^ 31) (hok : nmOk A.tp tl' 0 n = true) (htl : tl' ≤ 2060) (h0 : A.T.ent d (nmN A.tp 0 n) = 0) (hi1 : id ≠ 0) (hi2 : id ≤ 250) :
    Ev (Mod_addEntry FU (nI d) (nI n) (nI id) (up w)) fun r => ∃ y, r = up y ∧ MI y (A.w_T (A.T.put d (nmN A.tp 0 n) id)) ∧ y.1 0 = w.1 0 ∧ (∀ a, a ≤ 10 → y.2 a = w.2 a) := by
  have hA : MI (zI w 9 tl') (A.w_tl tl') := h.io (fun k hk => by rw [zI1, if_neg (by omega)]) (fun a _ => rfl) h.po.wd h.dv h.ms h.ct h.cd ⟨rfl, htl⟩ h.ol h.tp h.tb rfl rfl rfl rfl rfl
  obtain ⟨o1, o2, o3⟩ := nmOk_le hok
  have hnl := NL_of hok (fun i hi => (h.tp i (by omega)).2)
  have hen := h.en
  unfold Mod_addEntry
  rw [up1, show (0 : Int32) = nI 0 from rfl]
  refine (nameEntry_z hF h hE (by omega) o2).bd ?_
  rintro _ ⟨x, rfl, x1, xa, x11, x13, x14⟩
  rw [up1, x1, wrA_z x 12 hE (by decide), Option.bind_some, nx_eq, up1, show (zA x 12 (w.1 12) id).1 12 = w.1 12 by rw [← x1]; rfl, nI_1, up_I]
  obtain ⟨y, ey⟩ : ∃ y, y = zI (zA x 12 (w.1 12) id) 12 (w.1 12 + 1) := ⟨_, rfl⟩
  rw [← ey]
  have y12 : y.1 12 = w.1 12 + 1 := by rw [ey, zI1, if_pos rfl]
  have ys : ∀ k, k ≠ 12 → y.1 k = w.1 k := fun k hk => by rw [ey, zI1, if_neg hk, ← x1]; rfl
  have ya : ∀ a, a ≠ 12 → y.2 a = x.2 a := fun a ha => by rw [ey, zI2, zA2, if_neg ha]
  have yi : y.2 12 = va_up (w.2 12) (w.1 12) id := by rw [ey, zI2, zA2, if_pos rfl, xa 12 (by decide) (by decide) (by decide)]
  have yE : ∀ k, nmK y 13 14 k = nmK x 13 14 k := fun k => by
    unfold nmK
    rw [ya 13 (by decide), ya 14 (by decide)]
  obtain ⟨nw1, nw2⟩ := nmK_new hA (x := x) (k := w.1 12) (fr := 0) (n := n) hok x13 x14
  have old : ∀ k, k < w.1 12 → nmK x 13 14 k = nmK w 13 14 k ∧ ∀ i, i < w.2 13 k → x.2 14 (20 * k + i) = w.2 14 (20 * k + i) := fun k hk => nmK_old (w := w) (x := x) (k := w.1 12) (n := n) (by omega) o2 (hen.l20 hk) (by rw [x13, va_up_ne _ _ (by omega)]) (fun j hj => by rw [x14, if_neg (by omega)])
  have hwd : ∀ a i, y.2 a i < 2 ^ 32 := fun a i => by
    by_cases c : a = 12
    · rw [c, yi]
      unfold va_up
      split
      · omega
      · exact h.po.wd 12 i
    · rw [ya a c]
      by_cases c1 : a = 11
      · rw [c1, x11]
        unfold va_up
        split
        · omega
        · exact h.po.wd 11 i
      · by_cases c2 : a = 13
        · rw [c2, x13]
          unfold va_up
          split
          · omega
          · exact h.po.wd 13 i
        · by_cases c3 : a = 14
          · rw [c3, x14]
            split
            · exact h.po.wd 0 _
            · exact h.po.wd 14 i
          · rw [xa a c1 c2 c3]; exact h.po.wd a i
  have hel : EL (w.1 12 + 1) (y.2 11) (y.2 12) (nmK y 13 14) (y.2 13) (entP A.T.ent d (nmN A.tp 0 n) id) := hen.el.add h0 hnl hi1 hi2 (fun k hk => ⟨by rw [ya 11 (by decide), x11, va_up_ne _ _ (by omega)], by rw [yi, va_up_ne _ _ (by omega)], by rw [yE, (old k hk).1], by rw [ya 13 (by decide), x13, va_up_ne _ _ (by omega)]⟩) ⟨by rw [ya 11 (by decide), x11, va_up_self], by rw [yi, va_up_self], by rw [yE]; exact nw1, by rw [ya 13 (by decide), x13, va_up_self]⟩
  have hEN : EN y 11 12 13 14 (y.1 12) (entP A.T.ent d (nmN A.tp 0 n) id) := by
    rw [y12]
    refine ⟨by omega, hel.en, fun k hk => ?_, hel.nl, fun k hk i hi => ?_, hel.dis, hel.all⟩
    · rw [ya 11 (by decide), x11]
      unfold va_up
      split
      · exact hd
      · exact hen.rd k (by omega)
    · rw [ya 13 (by decide), x13] at hi
      rw [ya 14 (by decide)]
      by_cases c : k = w.1 12
      · rw [c, va_up_self] at hi
        rw [c]; exact nw2 i hi
      · rw [va_up_ne _ _ c] at hi
        rw [(old k (by omega)).2 i hi]
        exact hen.by' k (by omega) i hi
  refine Ev.ret ⟨y, rfl, ?_, ys 0 (by decide), fun a ha => by rw [ya a (by omega), xa a (by omega) (by omega) (by omega)]⟩
  rw [← put_is]
  exact h.ents (fun k _ k12 => ys k k12) (fun a ha => by rw [ya a (by omega), xa a (by omega) (by omega) (by omega)]) hwd hEN
theorem removeEntry_b (FU : Nat) {w : NSt} (hw : ∀ a i, w.2 a i < 2 ^ 32) {k e : Nat} (hk : k < 2400) (he : e < 2400) : ∀ (m i q : Nat) (y : NSt), i + m = 20 → m < q → y.1 12 = e → (∀ a, a ≠ 14 → y.2 a = w.2 a) → (∀ j, y.2 14 j = if 20 * k ≤ j ∧ j < 20 * k + i then sxN (w.2 14 (20 * e + (j - 20 * k)) % 256) else w.2 14 j) →
    Ev (Mod_removeEntry_b57 FU q (nI k) (nI i) (up y)) fun r => ∃ x, r = up x ∧ x.1 = y.1 ∧ (∀ a, a ≠ 14 → x.2 a = w.2 a) ∧ ∀ j, x.2 14 j = if 20 * k ≤ j ∧ j < 20 * k + 20 then sxN (w.2 14 (20 * e + (j - 20 * k)) % 256) else w.2 14 j := by
  intro m
  induction m with
  | zero =>
    intro i q y h1 h2 y12 ya y14
    obtain ⟨q, rfl⟩ : ∃ q9, q = q9 + 1 := ⟨q - 1, by omega⟩
    have h1 : i = 20 := h1
    subst h1
    unfold Mod_removeEntry_b57
    rw [if_pos (show (20 : Int32) ≤ nI 20 by decide)]
    exact Ev.ret ⟨y, rfl, rfl, ya, y14⟩
  | succ m ih =>
    intro i q y h1 h2 y12 ya y14
    obtain ⟨q, rfl⟩ : ∃ q9, q = q9 + 1 := ⟨q - 1, by omega⟩
    unfold Mod_removeEntry_b57
    rw [if_neg (show ¬ (20 : Int32) ≤ nI i from fun v => by
      rw [show (20 : Int32) = nI 20 from rfl, nI_leI (by decide) (by omega)] at v
      omega), up1, y12, show (20 : Int32) * nI e = nI (20 * e) from pk_mul 20 e, nI_add, rdA_z y 14 (by omega) (by decide), Option.bind_some, nby_n, show (20 : Int32) * nI k = nI (20 * k) from pk_mul 20 k, nI_add, wrA_z y 14 (by omega) (by decide), Option.bind_some, nI_1]
    have er : y.2 14 (20 * e + i) = w.2 14 (20 * e + i) := by
      rw [y14]
      by_cases c : k = e
      · rw [if_neg (by omega)]
      · rw [if_neg (by omega)]
    rw [er]
    obtain ⟨x, ex⟩ : ∃ x, x = zA y 14 (20 * k + i) (sxN (w.2 14 (20 * e + i) % 256)) := ⟨_, rfl⟩
    rw [← ex]
    have x1 : x.1 = y.1 := by rw [ex]; rfl
    refine (ih (i + 1) q x (by omega) (by omega) (by rw [x1]; exact y12) (fun a ha => by rw [ex, zA2, if_neg ha]; exact ya a ha) (fun j => ?_)).mono ?_
    · rw [ex, zA2, if_pos rfl]
      show (if j = 20 * k + i then sxN (w.2 14 (20 * e + i) % 256) else y.2 14 j) = _
      rw [y14]
      by_cases c : j = 20 * k + i
      · rw [if_pos c, if_pos (by omega), c, show 20 * k + i - 20 * k = i by omega]
      · rw [if_neg c]
        by_cases d : 20 * k ≤ j ∧ j < 20 * k + i
        · rw [if_pos d, if_pos (by omega)]
        · rw [if_neg d, if_neg (by omega)]
    · rintro _ ⟨z, rfl, z1, z2, z3⟩
      exact ⟨z, rfl, by rw [z1, x1], z2, z3⟩
theorem removeEntry_z {FU : Nat} (hF : 140000 < FU) {w : NSt} {A : AB} (h : MI w A) {k : Nat} (hk : k < w.1 12) :
    Ev (Mod_removeEntry FU (nI k) (up w)) fun r => ∃ y, r = up y ∧ MI y (A.w_T (A.T.put (w.2 11 k) (nmK w 13 14 k) 0)) ∧ y.1 0 = w.1 0 ∧ (∀ a, a ≤ 10 → y.2 a = w.2 a) := by
  have hE := h.en.le
  have hen := h.en
  unfold Mod_removeEntry
  obtain ⟨e, ee⟩ : ∃ e, e = w.1 12 - 1 := ⟨_, rfl⟩
  have eE : w.1 12 = e + 1 := by omega
  rw [up1, show (1 : Int32) = nI 1 from rfl, pk_sub (by omega), ← ee, nx_eq, up_I, up1, zI1, if_pos rfl, rdA_z _ 11 (by omega) (by decide), Option.bind_some, wrA_z _ 11 (by omega) (by decide), Option.bind_some, up1, zA1, zI1, if_pos rfl, rdA_z _ 12 (by omega) (by decide), Option.bind_some, wrA_z _ 12 (by omega) (by decide), Option.bind_some, up1, zA1, zA1, zI1, if_pos rfl, rdA_z _ 13 (by omega) (by decide), Option.bind_some, wrA_z _ 13 (by omega) (by decide), Option.bind_some]
  obtain ⟨x, ex⟩ : ∃ x, x = zA (zA (zA (zI w 12 e) 11 k ((zI w 12 e).2 11 e)) 12 k ((zA (zI w 12 e) 11 k ((zI w 12 e).2 11 e)).2 12 e)) 13 k ((zA (zA (zI w 12 e) 11 k ((zI w 12 e).2 11 e)) 12 k ((zA (zI w 12 e) 11 k ((zI w 12 e).2 11 e)).2 12 e)).2 13 e) := ⟨_, rfl⟩
  rw [← ex]
  have x1 : ∀ j, j ≠ 12 → x.1 j = w.1 j := fun j hj => by rw [ex, zA1, zA1, zA1, zI1, if_neg hj]
  have x12 : x.1 12 = e := by rw [ex, zA1, zA1, zA1, zI1, if_pos rfl]
  have xa : ∀ a, a ≠ 11 → a ≠ 12 → a ≠ 13 → x.2 a = w.2 a := fun a a1 a2 a3 => by rw [ex, zA2, if_neg a3, zA2, if_neg a2, zA2, if_neg a1, zI2]
  have xd : x.2 11 = va_up (w.2 11) k (w.2 11 e) := by rw [ex, zA2, if_neg (by decide), zA2, if_neg (by decide), zA2, if_pos rfl, zI2]
  have xi : x.2 12 = va_up (w.2 12) k (w.2 12 e) := by rw [ex, zA2, if_neg (by decide), zA2, if_pos rfl, zA2, if_neg (by decide), zI2]
  have xl : x.2 13 = va_up (w.2 13) k (w.2 13 e) := by rw [ex, zA2, if_pos rfl, zA2, if_neg (by decide), zA2, if_neg (by decide), zI2]
  rw [show (0 : Int32) = nI 0 from rfl]
  have xw : ∀ a i, x.2 a i < 2 ^ 32 := fun a i => by
    by_cases c1 : a = 11
    · rw [c1, xd]; unfold va_up; split <;> exact h.po.wd 11 _
    · by_cases c2 : a = 12
      · rw [c2, xi]; unfold va_up; split <;> exact h.po.wd 12 _
      · by_cases c3 : a = 13
        · rw [c3, xl]; unfold va_up; split <;> exact h.po.wd 13 _
        · rw [xa a c1 c2 c3]; exact h.po.wd a i
  refine (removeEntry_b FU xw (by omega) (show e < 2400 by omega) 20 0 FU x (by omega) (by omega) x12 (fun a _ => rfl) (fun j => by rw [if_neg (by omega)])).mono ?_
  rintro _ ⟨y, rfl, y1, ya, y14⟩
  rw [xa 14 (by decide) (by decide) (by decide)] at y14
  have yl : y.2 13 = va_up (w.2 13) k (w.2 13 e) := by rw [ya 13 (by decide), xl]
  have yw : ∀ a i, y.2 a i < 2 ^ 32 := fun a i => by
    by_cases c : a = 14
    · rw [c, y14]
      split
      · exact sxN_lt (Nat.mod_lt _ (by decide))
      · exact h.po.wd 14 i
    · rw [ya a c]; exact xw a i
  have nmk : nmK y 13 14 k = nmK w 13 14 e := by
    have le := hen.l20 (k := e) (by omega)
    unfold nmK
    refine hn_congr (fun i _ => ?_)
    rw [yl, va_up_self]
    by_cases c : i < w.2 13 e
    · rw [if_pos c, if_pos c, y14, if_pos (by omega), show 20 * k + i - 20 * k = i by omega, sxN_md (Nat.mod_lt _ (by decide))]
    · rw [if_neg c, if_neg c]
  have nmo : ∀ j, j < w.1 12 → j ≠ k → nmK y 13 14 j = nmK w 13 14 j ∧ ∀ i, i < w.2 13 j → y.2 14 (20 * j + i) = w.2 14 (20 * j + i) := fun j hj hne => nmK_old (w := w) (x := y) (k := k) (n := 20) hne (by decide) (hen.l20 hj) (by rw [yl, va_up_ne _ _ hne]) (fun i hi => by rw [y14, if_neg (by omega)])
  have hel0 := hen.el
  rw [eE] at hel0
  have hel := hel0.rem (k := k) (by omega) (D' := y.2 11) (I' := y.2 12) (N' := nmK y 13 14) (L' := y.2 13) (fun j hj => by
    by_cases c : j = k
    · rw [if_pos c, c]
      exact ⟨by rw [ya 11 (by decide), xd, va_up_self], by rw [ya 12 (by decide), xi, va_up_self], nmk, by rw [yl, va_up_self]⟩
    · rw [if_neg c]
      exact ⟨by rw [ya 11 (by decide), xd, va_up_ne _ _ c], by rw [ya 12 (by decide), xi, va_up_ne _ _ c], (nmo j (by omega) c).1, by rw [yl, va_up_ne _ _ c]⟩)
  have hEN : EN y 11 12 13 14 (y.1 12) (entP A.T.ent (w.2 11 k) (nmK w 13 14 k) 0) := by
    rw [y1, x12]
    refine ⟨by omega, hel.en, fun j hj => ?_, hel.nl, fun j hj i hi => ?_, hel.dis, hel.all⟩
    · rw [ya 11 (by decide), xd]
      unfold va_up
      split
      · exact hen.rd e (by omega)
      · exact hen.rd j (by omega)
    · by_cases c : j = k
      · rw [c, yl, va_up_self] at hi
        have le := hen.l20 (k := e) (by omega)
        rw [c, y14, if_pos (by omega), sxN_md (Nat.mod_lt _ (by decide))]
      · rw [yl, va_up_ne _ _ c] at hi
        rw [(nmo j (by omega) c).2 i hi]
        exact hen.by' j (by omega) i hi
  refine ⟨y, rfl, ?_, by rw [y1, x1 0 (by decide)], fun a ha => by rw [ya a (by omega), xa a (by omega) (by omega) (by omega)]⟩
  rw [← put_is]
  exact h.ents (fun j _ j12 => by rw [y1, x1 j j12]) (fun a ha => by rw [ya a (by omega), xa a (by omega) (by omega) (by omega)]) yw hEN
