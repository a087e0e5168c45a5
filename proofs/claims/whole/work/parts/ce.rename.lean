/-! the model: rename -/
theorem MI.cgT {w : NSt} {A : AB} {T1 T2 : TRE} {r1 r2 : Nat → Bool} (h : MI w ((A.w_T T1).w_rn r1)) (e1 : T2.ent = T1.ent) (e2 : T2.kd = T1.kd) (e3 : T2.lk = T1.lk) (e4 : T2.fil = T1.fil) (er : ∀ id, T1.kd id = 1 → r2 id = r1 id) : MI w ((A.w_T T2).w_rn r2) := by
  refine h.chg (fun _ _ _ _ => rfl) (fun _ _ => rfl) rfl rfl rfl rfl rfl rfl rfl rfl rfl rfl rfl rfl rfl rfl ?_ (fun id i1 i2 => ?_) (fun id i1 i2 => ?_) (fun id i1 i2 => ?_) (fun id i1 i2 => ?_) h.f1 h.f2 h.po
  · show EN w 11 12 13 14 (w.1 12) T2.ent
    rw [e1]; exact h.en
  · show w.2 2 id = T2.kd id ∧ _
    rw [e2]; exact h.kd id i1 i2
  · show (T2.kd id = 1 → w.2 4 id = T2.lk id) ∧ _
    rw [e2, e3]; exact h.lk id i1 i2
  · show w.2 7 id ≤ 1 ∧ (T2.kd id = 1 → w.2 7 id = if r2 id = true then 1 else 0)
    rw [e2]
    refine ⟨(h.rn id i1 i2).1, fun q => ?_⟩
    rw [er id q]; exact (h.rn id i1 i2).2 q
  · show (T2.kd id = 1 → PV w 0 id (T2.fil id)) ∧ (T2.kd id ≠ 1 → PN0 w 0 id)
    rw [e2, e4]; exact h.f0 id i1 i2
theorem dir_one {T : TRE} (h : TWF T) (hT : TFA T) {d n o m x : Nat} (hk : T.kd x = 2) (h1 : T.ent d n = x) (h2 : T.ent o m = x) : d = o ∧ n = m := by
  have x0 : x ≠ 0 := fun e => by
    have := (hT.rng x (by omega)).1
    omega
  have q1 : T.ent d n ≠ 0 := by rw [h1]; exact x0
  have q2 : T.ent o m ≠ 0 := by rw [h2]; exact x0
  have x1 : x ≠ 1 := by
    have := (h.tg d n q1).2
    rw [h1] at this
    exact this
  obtain ⟨-, d2, d3⟩ := h.dn hT q1
  obtain ⟨-, o2, o3⟩ := h.dn hT q2
  refine Classical.byContradiction (fun q => ?_)
  have a := lkc_put (T := T) (d := d) (n := n) (v := 0) (x := x) d2 d3
  have b := lkc_one (T := T.put d n 0) (d := o) (n := m) (x := x) o2 o3 (by
    by_cases c : o = d
    · rw [c] at h2 ⊢
      rw [put_e1 T (fun e => q ⟨c.symm, e.symm⟩)]; exact h2
    · rw [put_e2 T c]; exact h2)
  rw [if_pos h1, if_neg (Ne.symm x0), h.dl x hk x1] at a
  obtain ⟨u, eu⟩ : ∃ u, u = lkc (T.put d n 0) x := ⟨_, rfl⟩
  rw [← eu] at a b
  omega
/-- an entry takes another name in place -/
theorem nameE_z {FU : Nat} (hF : 140000 < FU) {w : NSt} {A : AB} (h : MI w A) {tl' k o fr n : Nat} (hk : k < w.1 12) (ho : o < 2 ^ 31) (hok : nmOk A.tp tl' fr n = true) (htl : tl' ≤ 2060) (h0 : A.T.ent o (nmN A.tp fr n) = 0) :
    Ev (Mod_nameEntry FU (nI k) (nI o) (nI fr) (nI n) (up w)) fun r => ∃ y, r = up y ∧ MI y (A.w_T ((A.T.put (w.2 11 k) (nmK w 13 14 k) 0).put o (nmN A.tp fr n) (w.2 12 k))) ∧ y.1 0 = w.1 0 := by
  have hA : MI (zI w 9 tl') (A.w_tl tl') := h.io (fun k hk => by rw [zI1, if_neg (by omega)]) (fun a _ => rfl) h.po.wd h.dv h.ms h.ct h.cd ⟨rfl, htl⟩ h.ol h.tp h.tb rfl rfl rfl rfl rfl
  obtain ⟨o1, o2, o3⟩ := nmOk_le hok
  have hnl := NL_of hok (fun i hi => (h.tp i (by omega)).2)
  have hen := h.en
  have hE := hen.le
  refine (nameEntry_z hF h (k := k) (d := o) (by omega) (by omega) o2).mono ?_
  rintro _ ⟨x, rfl, x1, xa, x11, x13, x14⟩
  obtain ⟨nw1, nw2⟩ := nmK_new hA (x := x) (k := k) (fr := fr) (n := n) hok x13 x14
  have old : ∀ k', k' < w.1 12 → k' ≠ k → nmK x 13 14 k' = nmK w 13 14 k' ∧ ∀ i, i < w.2 13 k' → x.2 14 (20 * k' + i) = w.2 14 (20 * k' + i) := fun k' hk' ne => nmK_old (w := w) (x := x) (k := k) (n := n) ne o2 (hen.l20 hk') (by rw [x13, va_up_ne _ _ ne]) (fun j hj => by rw [x14, if_neg (by omega)])
  have hwd : ∀ a i, x.2 a i < 2 ^ 32 := fun a i => by
    by_cases c1 : a = 11
    · rw [c1, x11]
      unfold va_up
      split
      · omega
      · exact h.po.wd 11 i
    · by_cases c2 : a = 13
      · rw [c2, x13]
        unfold va_up
        split
        · omega
        · exact h.po.wd 13 i
      · by_cases c3 : a = 14
        · rw [c3, x14]
          split
          · exact h.po.wd 0 _
          · exact h.po.wd 14 i
        · rw [xa a c1 c2 c3]; exact h.po.wd a i
  have x12 : x.2 12 = w.2 12 := xa 12 (by decide) (by decide) (by decide)
  have hel : EL (w.1 12) (x.2 11) (w.2 12) (nmK x 13 14) (x.2 13) (entP (entP A.T.ent (w.2 11 k) (nmK w 13 14 k) 0) o (nmN A.tp fr n) (w.2 12 k)) := hen.el.mov hk h0 hnl (fun k' hk' ne => ⟨by rw [x11, va_up_ne _ _ ne], (old k' hk' ne).1, by rw [x13, va_up_ne _ _ ne]⟩) ⟨by rw [x11, va_up_self], nw1, by rw [x13, va_up_self]⟩
  have hEN : EN x 11 12 13 14 (x.1 12) (entP (entP A.T.ent (w.2 11 k) (nmK w 13 14 k) 0) o (nmN A.tp fr n) (w.2 12 k)) := by
    rw [x1]
    refine ⟨hE, by rw [x12]; exact hel.en, fun k' hk' => ?_, hel.nl, fun k' hk' i hi => ?_, hel.dis, hel.all⟩
    · rw [x11]
      unfold va_up
      split
      · exact ho
      · exact hen.rd k' hk'
    · rw [x13] at hi
      by_cases c : k' = k
      · rw [c, va_up_self] at hi
        rw [c]; exact nw2 i hi
      · rw [va_up_ne _ _ c] at hi
        rw [(old k' hk' c).2 i hi]
        exact hen.by' k' hk' i hi
  refine ⟨x, rfl, ?_, by rw [x1]⟩
  exact h.ents (fun j _ _ => by rw [x1]) (fun a ha => xa a (by omega) (by omega) (by omega)) hwd hEN
/-- an entry comes to lead elsewhere -/
theorem setE_z {w : NSt} {A : AB} (h : MI w A) {k id : Nat} (hk : k < w.1 12) (i1 : id ≠ 0) (i2 : id ≤ 250) : MI (zA w 12 k id) (A.w_T (A.T.put (w.2 11 k) (nmK w 13 14 k) id)) := by
  have hen := h.en
  have hel := hen.el.set hk i1 i2
  have za : ∀ a, a ≠ 12 → (zA w 12 k id).2 a = w.2 a := fun a ha => by rw [zA2, if_neg ha]
  refine h.ents (y := zA w 12 k id) (ent' := entP A.T.ent (w.2 11 k) (nmK w 13 14 k) id) (fun _ _ _ => rfl) (fun a ha => za a (by omega)) (zA_wd h.po.wd _ _ (by omega)) ?_
  have e12 : (zA w 12 k id).2 12 = va_up (w.2 12) k id := by rw [zA2, if_pos rfl]
  have eN : nmK (zA w 12 k id) 13 14 = nmK w 13 14 := by
    funext j
    unfold nmK
    rw [za 13 (by decide), za 14 (by decide)]
  refine ⟨hen.le, fun j hj => ?_, fun j hj => ?_, fun j hj => ?_, fun j hj i hi => ?_, fun j j' hj hj' a b => ?_, fun d n q => ?_⟩
  · rw [za 11 (by decide), e12, eN]; exact hel.en j hj
  · rw [za 11 (by decide)]; exact hen.rd j hj
  · rw [eN, za 13 (by decide)]; exact hen.nl j hj
  · rw [za 14 (by decide)]
    rw [za 13 (by decide)] at hi
    exact hen.by' j hj i hi
  · rw [za 11 (by decide)] at a
    rw [eN] at b
    exact hen.dis j j' hj hj' a b
  · rw [za 11 (by decide), eN]; exact hel.all d n q
/-- what a renaming is refused for, beyond its arguments -/
def refA (T : TRE) (d o id lost : Nat) : Prop := (lost ≠ 0 ∧ (T.kd lost ≠ T.kd id ∨ (T.kd lost = 2 ∧ 0 < nmc (T.ent lost)))) ∨ (lost = 0 ∧ o ≠ d ∧ 48 ≤ nmc (T.ent o)) ∨ (T.kd id = 2 ∧ isInB T o id = true)
theorem refused_z {FU : Nat} (hF : 140000 < FU) {w : NSt} {A : AB} (h : MI w A) (hA : TWF A.T) (hT : TFA A.T) {d o a id : Nat} (hd' : d < 2 ^ 32) (ho' : o < 2 ^ 32) (ho : A.T.kd o = 2) (ha : a < w.1 12) (hid : w.2 12 a = id) :
    (∃ v, v ≤ 1 ∧ Mod_isRefused FU (nI a) (-1 : Int32) (nI d) (nI o) (up w) = some (nI v) ∧ (v = 1 ↔ refA A.T d o id 0)) ∧
    (∀ b lost, b < w.1 12 → b ≠ a → w.2 12 b = lost → ∃ v, v ≤ 1 ∧ Mod_isRefused FU (nI a) (nI b) (nI d) (nI o) (up w) = some (nI v) ∧ (v = 1 ↔ refA A.T d o id lost)) := by
  have hE := h.en.le
  obtain ⟨-, e2, e3⟩ := h.en.en a ha
  rw [hid] at e2 e3
  have i1 : 1 ≤ id := by omega
  have ek := (h.kd id i1 e3).1
  have hw2 := h.po.wd 2 id
  rw [ek] at hw2
  have fin : ∃ v, v ≤ 1 ∧ Mod_isRefused_b95 FU (nI o) (nI id) (up w) = some (nI v) ∧ (v = 1 ↔ (A.T.kd id = 2 ∧ isInB A.T o id = true)) := by
    unfold Mod_isRefused_b95
    rw [rdA_z w 2 (by omega) (by decide), Option.bind_some, ek]
    by_cases c : A.T.kd id = 2
    · rw [if_pos (show nI (A.T.kd id) = (2 : Int32) by rw [c]; rfl), isWithin_z hF h hA hT (by omega) ho, Option.bind_some]
      by_cases q : isInB A.T o id = true
      · rw [if_pos q, if_neg n1]
        exact ⟨1, by decide, rfl, fun _ => ⟨c, q⟩, fun _ => rfl⟩
      · rw [if_neg q, if_pos i00]
        exact ⟨0, by decide, rfl, (fun v => absurd v (by decide)), fun v => absurd v.2 q⟩
    · rw [if_neg (fun v : nI (A.T.kd id) = (2 : Int32) => c ((eqN hw2 (c := 2) (by decide)).mp v))]
      exact ⟨0, by decide, rfl, (fun v => absurd v (by decide)), fun v => absurd v.1 c⟩
  obtain ⟨v, hv1, hv2, hv3⟩ := fin
  unfold Mod_isRefused
  have p0 : (0 : Int32) ≤ nI a := nI_le (Nat.zero_le _) (by omega)
  rw [if_pos p0]
  refine ⟨?_, fun b lost hb hne hl => ?_⟩
  · rw [if_neg (show ¬ nI a = (-1 : Int32) from fun q => by rw [q] at p0; exact absurd p0 (by decide)), rdA_z w 12 (by omega) (by decide), Option.bind_some, hid, if_pos (show (-1 : Int32) < 0 by decide)]
    unfold Mod_isRefused_b72
    rw [if_neg (show ¬ (0 : Int32) ≤ (-1 : Int32) by decide)]
    unfold refA
    by_cases c : o = d
    · rw [c] at hv2 hv3 ⊢
      rw [if_pos rfl]
      refine ⟨v, hv1, hv2, hv3.trans ⟨fun q => Or.inr (Or.inr q), fun q => ?_⟩⟩
      rcases q with q | q | q
      · exact absurd rfl q.1
      · exact absurd rfl q.2.1
      · exact q
    · rw [if_neg (fun q => c ((nI_inj ho' hd').mp q)), namesOf_z hF h ho', Option.bind_some]
      have hfull := hT.full o ho
      obtain ⟨nc, enc⟩ : ∃ nc, nc = nmc (A.T.ent o) := ⟨_, rfl⟩
      rw [← enc] at hfull ⊢
      by_cases f : 48 ≤ nc
      · rw [show nc = 48 by omega, if_pos (show nI 48 = (48 : Int32) from rfl)]
        exact ⟨1, by decide, rfl, fun _ => Or.inr (Or.inl ⟨rfl, c, by decide⟩), fun _ => rfl⟩
      · rw [if_neg (fun v : nI nc = (48 : Int32) => by
          have := (eqN (w := nc) (by omega) (c := 48) (by decide)).mp v
          omega)]
        refine ⟨v, hv1, hv2, hv3.trans ⟨fun q => Or.inr (Or.inr q), fun q => ?_⟩⟩
        rcases q with q | q | q
        · exact absurd rfl q.1
        · exact absurd q.2.2 f
        · exact q
  · obtain ⟨-, l2, l3⟩ := h.en.en b hb
    rw [hl] at l2 l3
    have l1 : 1 ≤ lost := by omega
    have lk := (h.kd lost l1 l3).1
    have hwl := h.po.wd 2 lost
    rw [lk] at hwl
    have go : ¬ (A.T.kd lost ≠ A.T.kd id ∨ (A.T.kd lost = 2 ∧ 0 < nmc (A.T.ent lost))) → ∃ v, v ≤ 1 ∧ Mod_isRefused_b72 FU (nI b) (nI d) (nI o) (nI id) (up w) = some (nI v) ∧ (v = 1 ↔ refA A.T d o id lost) := fun q => by
      unfold Mod_isRefused_b72
      rw [if_pos (show (0 : Int32) ≤ nI b from nI_le (Nat.zero_le _) (by omega))]
      refine ⟨v, hv1, hv2, hv3.trans ⟨fun q => Or.inr (Or.inr q), fun r => ?_⟩⟩
      rcases r with r | r | r
      · exact absurd r.2 q
      · exact absurd r.1 l2
      · exact r
    have no : (A.T.kd lost ≠ A.T.kd id ∨ (A.T.kd lost = 2 ∧ 0 < nmc (A.T.ent lost))) → ∃ v, v ≤ 1 ∧ (some (1 : Int32) : Option Int32) = some (nI v) ∧ (v = 1 ↔ refA A.T d o id lost) := fun q => ⟨1, by decide, rfl, fun _ => Or.inl ⟨l2, q⟩, fun _ => rfl⟩
    rw [if_pos p0, if_neg (fun q => hne ((nI_inj (by omega) (by omega)).mp q).symm), rdA_z w 12 (by omega) (by decide), Option.bind_some, hid, if_neg (show ¬ nI b < (0 : Int32) from nI_nlt (Nat.zero_le _) (by omega)), rdA_z w 12 (by omega) (by decide), Option.bind_some, hl, rdA_z w 2 (by omega) (by decide), Option.bind_some, lk, rdA_z w 2 (by omega) (by decide), Option.bind_some, ek]
    by_cases c : A.T.kd lost = A.T.kd id
    · rw [if_pos (show nI (A.T.kd lost) = nI (A.T.kd id) by rw [c]), Option.bind_some]
      by_cases e : A.T.kd id = 2
      · have hfull := hT.full lost (c.trans e)
        rw [if_pos (show nI (A.T.kd id) = (2 : Int32) by rw [e]; rfl), Option.bind_some, namesOf_z hF h (d := lost) (Nat.lt_of_le_of_lt l3 (by decide)), Option.bind_some]
        by_cases f : 0 < nmc (A.T.ent lost)
        · rw [if_neg (show ¬ nI (nmc (A.T.ent lost)) ≤ (0 : Int32) from nI_ge f (Nat.lt_of_le_of_lt hfull (by decide)))]
          exact no (Or.inr ⟨c.trans e, f⟩)
        · rw [if_pos (show nI (nmc (A.T.ent lost)) ≤ (0 : Int32) from nI_le (Nat.le_of_not_lt f) (by decide))]
          exact go (fun q => by
            rcases q with q | q
            · exact q c
            · exact f q.2)
      · rw [if_neg (fun v : nI (A.T.kd id) = (2 : Int32) => e ((eqN hw2 (c := 2) (by decide)).mp v))]
        exact go (fun q => by
          rcases q with q | q
          · exact q c
          · exact e (c ▸ q.1))
    · rw [if_neg (fun q => c ((nI_inj hwl hw2).mp q))]
      exact no (Or.inl c)
