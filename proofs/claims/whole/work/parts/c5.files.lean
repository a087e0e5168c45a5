/-! the model: files are written and cut -/
theorem pcs_le {w : NSt} {A : AB} {s : Nat} (h : MI w A) (hA : AI A s) (hT : AT A) : pcs w ≤ 6165 := by
  obtain ⟨m, m1, m2, m3⟩ := hA.mx
  have hrb := hA.rb
  have hm : sm (fun j => m (1 + j)) 250 ≤ 1664 := by omega
  have row : ∀ r, r < 753 → r % 251 ≠ 0 → sm (fun p => if w.2 8 (r * 391 + p) = neg1 then 0 else 1) 391 ≤ m (r % 251) := fun r hr h0 => by
    have hid1 : 1 ≤ r % 251 := by omega
    have hid2 : r % 251 ≤ 250 := by omega
    have er : ∀ p, r * 391 + p = pcN (r / 251) (r % 251) p := fun p => by
      unfold pcN
      rw [show 251 * (r / 251) + r % 251 = r by omega]
    have e0 : sm (fun p => if w.2 8 (r * 391 + p) = neg1 then 0 else 1) 391 = sm (fun p => if w.2 8 (pcN (r / 251) (r % 251) p) = neg1 then 0 else 1) 391 := sm_congr (fun p _ => by rw [er])
    rw [e0]
    have nz : PN0 w (r / 251) (r % 251) → sm (fun p => if w.2 8 (pcN (r / 251) (r % 251) p) = neg1 then 0 else 1) 391 ≤ m (r % 251) := fun q => by
      rw [sm_zero (fun p hp => if_pos (q p hp))]; exact Nat.zero_le _
    have au1 : ∀ (T : TRE), T.kd (r % 251) = 1 → auT T (r % 251) = auF (T.fil (r % 251)) := fun T k => by
      unfold auT
      rw [k, if_neg (by decide), if_neg (by decide)]
    obtain ⟨q1, q2, q3⟩ := m1 (r % 251)
    rcases (show r / 251 = 0 ∨ r / 251 = 1 ∨ r / 251 = 2 by omega) with e | e | e
    · rw [e] at nz ⊢
      obtain ⟨a, b⟩ := h.f0 _ hid1 hid2
      by_cases k : A.T.kd (r % 251) = 1
      · have := (a k).cnt (hT.t.fv _ k).smb
        rw [au1 A.T k] at q1
        omega
      · exact nz (b k)
    · rw [e] at nz ⊢
      obtain ⟨a, b⟩ := h.f1 _ hid1 hid2
      by_cases k : A.O.kd (r % 251) = 1
      · have := (a k).cnt (hT.o.fv _ k).smb
        rw [au1 A.O k] at q2
        omega
      · exact nz (b k)
    · rw [e] at nz ⊢
      obtain ⟨a, b⟩ := h.f2 _ hid1 hid2
      by_cases k : A.S (r % 251) = true
      · have := (a k).cnt (hT.f _ k).smb
        have k1 : A.R.kd (r % 251) = 1 := hA.sk _ k
        have ef : A.R.fil (r % 251) = A.F (r % 251) := by
          show (if A.S (r % 251) = true then A.F (r % 251) else A.O.fil (r % 251)) = _
          rw [if_pos k]
        rw [au1 A.R k1, ef] at q3
        omega
      · exact nz (b k)
  have row0 : ∀ r, sm (fun p => if w.2 8 (r * 391 + p) = neg1 then 0 else 1) 391 ≤ 391 := fun r => by
    have := sm_bnd (f := fun p => if w.2 8 (r * 391 + p) = neg1 then 0 else 1) (n := 391) (c := 1) (fun p _ => by split <;> omega)
    omega
  have e1 : pcs w = sm (fun r => sm (fun p => if w.2 8 (r * 391 + p) = neg1 then 0 else 1) 391) 753 := by
    unfold pcs
    rw [NPC_eq, sm_flat (fun r p => if w.2 8 (r * 391 + p) = neg1 then 0 else 1) (c := 391) (by decide) 753]
    refine sm_congr (fun i _ => ?_)
    rw [show i / 391 * 391 + i % 391 = i by omega]
  have lay : ∀ l, l < 3 → sm (fun j => sm (fun p => if w.2 8 ((251 * l + j) * 391 + p) = neg1 then 0 else 1) 391) 251 ≤ 391 + 1664 := fun l hl => by
    have e : sm (fun j => sm (fun p => if w.2 8 ((251 * l + j) * 391 + p) = neg1 then 0 else 1) 391) 251 = sm (fun j => sm (fun p => if w.2 8 ((251 * l + j) * 391 + p) = neg1 then 0 else 1) 391) 1 + sm (fun i => sm (fun p => if w.2 8 ((251 * l + (1 + i)) * 391 + p) = neg1 then 0 else 1) 391) 250 := sm_cut (a := 1) (b := 250)
    have b := sm_le (f := fun j => sm (fun p => if w.2 8 ((251 * l + (1 + j)) * 391 + p) = neg1 then 0 else 1) 391) (g := fun j => m (1 + j)) (n := 250) (fun j hj => by
      have := row (251 * l + (1 + j)) (by omega) (by omega)
      rw [show (251 * l + (1 + j)) % 251 = 1 + j by omega] at this
      exact this)
    have c : sm (fun j => sm (fun p => if w.2 8 ((251 * l + j) * 391 + p) = neg1 then 0 else 1) 391) 1 ≤ 391 := by
      show 0 + sm (fun p => if w.2 8 ((251 * l + 0) * 391 + p) = neg1 then 0 else 1) 391 ≤ 391
      have := row0 (251 * l + 0)
      rw [Nat.zero_add]
      exact this
    rw [e]
    exact Nat.add_le_add c (Nat.le_trans b hm)
  rw [e1, show (753 : Nat) = 251 + (251 + 251) from rfl, sm_cut, sm_cut]
  have l0 := lay 0 (by decide)
  have l1 := lay 1 (by decide)
  have l2 := lay 2 (by decide)
  have c0 : sm (fun r => sm (fun p => if w.2 8 (r * 391 + p) = neg1 then 0 else 1) 391) 251 = sm (fun j => sm (fun p => if w.2 8 ((251 * 0 + j) * 391 + p) = neg1 then 0 else 1) 391) 251 := sm_congr (fun j _ => by rw [show 251 * 0 + j = j by omega])
  have c1 : sm (fun i => sm (fun p => if w.2 8 ((251 + i) * 391 + p) = neg1 then 0 else 1) 391) 251 = sm (fun j => sm (fun p => if w.2 8 ((251 * 1 + j) * 391 + p) = neg1 then 0 else 1) 391) 251 := sm_congr (fun j _ => by rw [show 251 * 1 + j = 251 + j by omega])
  have c2 : sm (fun i => sm (fun p => if w.2 8 ((251 + (251 + i)) * 391 + p) = neg1 then 0 else 1) 391) 251 = sm (fun j => sm (fun p => if w.2 8 ((251 * 2 + j) * 391 + p) = neg1 then 0 else 1) 391) 251 := sm_congr (fun j _ => by rw [show 251 * 2 + j = 251 + (251 + j) by omega])
  rw [c0, c1, c2]
  omega
theorem PV.cg {w : NSt} {l id : Nat} {f g : FV} (h : PV w l id f) (h1 : g.sz = f.sz) (h2 : g.sm = f.sm) (h3 : f.sm = 0 → ∀ p, p < 391 → (g.has p = 0 ↔ f.has p = 0)) (h4 : ∀ i, i < 100096 → g.byt i = f.byt i) : PV w l id g := by
  refine ⟨by rw [h1]; exact h.sz, by rw [h2]; exact h.sml, fun q p hp => ?_, fun q p p1 hp => ?_, fun i hi => ?_⟩
  · rw [h2] at q
    rw [h3 q p hp]; exact h.hs q p hp
  · rw [h2] at q
    exact h.s1 q p p1 hp
  · rw [h4 i hi]; exact h.by' i hi
/-- a file in work: the others stand -/
def WF (y w : NSt) (f : Nat) (g : FV) : Prop := (PO y) ∧ (PV y 0 f g) ∧ (OTH y w f) ∧ (∀ k, k ≠ 11 → y.1 k = w.1 k) ∧ (∀ a, a ≠ 3 → a ≠ 5 → a ≠ 8 → a ≠ 9 → a ≠ 10 → y.2 a = w.2 a) ∧ (∀ i, i ≠ f → y.2 3 i = w.2 3 i) ∧ (∀ i, i ≠ f → y.2 5 i = w.2 5 i) ∧ (∀ i, i < 294423 → ¬ (pcN 0 f 0 ≤ i ∧ i < pcN 0 f 391) → y.2 8 i = w.2 8 i)
theorem WF.po {y w : NSt} {f : Nat} {g : FV} (h9 : WF y w f g) : PO y := h9.1
theorem WF.pv {y w : NSt} {f : Nat} {g : FV} (h9 : WF y w f g) : PV y 0 f g := h9.2.1
theorem WF.oth {y w : NSt} {f : Nat} {g : FV} (h9 : WF y w f g) : OTH y w f := h9.2.2.1
theorem WF.sc {y w : NSt} {f : Nat} {g : FV} (h9 : WF y w f g) : ∀ k, k ≠ 11 → y.1 k = w.1 k := h9.2.2.2.1
theorem WF.ar {y w : NSt} {f : Nat} {g : FV} (h9 : WF y w f g) : ∀ a, a ≠ 3 → a ≠ 5 → a ≠ 8 → a ≠ 9 → a ≠ 10 → y.2 a = w.2 a := h9.2.2.2.2.1
theorem WF.r3 {y w : NSt} {f : Nat} {g : FV} (h9 : WF y w f g) : ∀ i, i ≠ f → y.2 3 i = w.2 3 i := h9.2.2.2.2.2.1
theorem WF.r5 {y w : NSt} {f : Nat} {g : FV} (h9 : WF y w f g) : ∀ i, i ≠ f → y.2 5 i = w.2 5 i := h9.2.2.2.2.2.2.1
theorem WF.pc {y w : NSt} {f : Nat} {g : FV} (h9 : WF y w f g) : ∀ i, i < 294423 → ¬ (pcN 0 f 0 ≤ i ∧ i < pcN 0 f 391) → y.2 8 i = w.2 8 i := h9.2.2.2.2.2.2.2
theorem WF.room {y w : NSt} {f : Nat} {g : FV} (h : WF y w f g) (hw : pcs w ≤ 6165) : pcs y < 6600 := by
  have a := (pcx_le y f).2
  have b := (pcx_le w f).1
  rw [pcx_keep h.pc] at a
  omega
theorem WF.own {FU : Nat} (hF : 140000 < FU) {y w : NSt} {f : Nat} {g : FV} (h : WF y w f g) (hw : pcs w ≤ 6165) (hf1 : 1 ≤ f) (hf : f ≤ 250) {p : Nat} (hp : p < 391) (hs : g.sm = 1 → p = 0) (hb : ∀ i, g.byt i < 256) : Ev (Mod_own FU (nI f) (nI p) (up y)) fun r => ∃ z x, r = (nI x, up z) ∧ WF z w f (g.own p) ∧ z.2 8 (pcN 0 f p) = x ∧ x < 6600 ∧ ocN z x = 1 := by
  refine (own_e hF h.po (h.room hw) hf hp (h.pv.nb hb hp)).mono ?_
  rintro _ ⟨z, x, rfl, hz⟩
  refine ⟨z, x, rfl, ⟨hz.po, hz.pv h.pv hf hp hs, (hz.oth' hf hp).trans h.oth, fun k hk => by rw [hz.sc k hk]; exact h.sc k hk, fun a a3 a5 a8 a9 a10 => by rw [hz.ar a a8 a9 a10]; exact h.ar a a3 a5 a8 a9 a10, fun i hi => by rw [hz.ar 3 (by decide) (by decide) (by decide)]; exact h.r3 i hi, fun i hi => by rw [hz.ar 5 (by decide) (by decide) (by decide)]; exact h.r5 i hi, fun i hi hn => ?_⟩, by rw [hz.pc, va_up_self], hz.lt, hz.one⟩
  rw [hz.pc, va_up_ne _ _ (fun e => hn (by rw [e]; unfold pcN; omega))]
  exact h.pc i hi hn
theorem WF.wr {y w : NSt} {f : Nat} {g : FV} (h : WF y w f g) (hf : f ≤ 250) {p x k b : Nat} (hp : p < 391) (hx : y.2 8 (pcN 0 f p) = x) (hx6 : x < 6600) (h1 : ocN y x = 1) (hk : k < 256) (hb : b < 256) : WF (zA y 9 (256 * x + k) (sxN b)) w f (g.wr1 (256 * p + k) b) ∧ ocN (zA y 9 (256 * x + k) (sxN b)) x = 1 := by
  obtain ⟨a1, a2, a3, a4⟩ := pw_pv h.pv hf hp hx hx6 h1 h.po hk hb
  refine ⟨⟨a3, a1, a2.trans h.oth, fun j hj => by rw [zA1]; exact h.sc j hj, fun a b1 b2 b3 b4 b5 => by rw [zA2, if_neg b4]; exact h.ar a b1 b2 b3 b4 b5, fun i hi => by rw [zA2, if_neg (by decide)]; exact h.r3 i hi, fun i hi => by rw [zA2, if_neg (by decide)]; exact h.r5 i hi, fun i hi hn => by rw [zA2, if_neg (by decide)]; exact h.pc i hi hn⟩, a4⟩
/-- the file's own size and whether it is small -/
theorem WF.set {y w : NSt} {f : Nat} {g : FV} (h : WF y w f g) {g' : FV} {z : NSt} (z1 : z.1 = y.1) (za : ∀ a, a ≠ 3 → a ≠ 5 → z.2 a = y.2 a) (z3 : z.2 3 = va_up (y.2 3) f g'.sz) (z5 : z.2 5 = va_up (y.2 5) f g'.sm) (hz3 : g'.sz < 2 ^ 32) (hz5 : g'.sm < 2 ^ 32) (hh : g'.sm = 0 → ∀ p, p < 391 → (y.2 8 (pcN 0 f p) = neg1 ↔ g'.has p = 0)) (h1 : g'.sm = 1 → ∀ p, 1 ≤ p → p < 391 → y.2 8 (pcN 0 f p) = neg1) (hb : ∀ i, i < 100096 → g'.byt i = g.byt i) : WF z w f g' := by
  have e8 := za 8 (by decide) (by decide)
  have e9 := za 9 (by decide) (by decide)
  refine ⟨h.po.keep (by rw [z1]; exact h.po.se) e8 (za 10 (by decide) (by decide)) (fun a i => ?_), ⟨?_, ?_, by rw [e8]; exact hh, by rw [e8]; exact h1, fun i hi => ?_⟩, fun l id p a b c d => ?_, fun k hk => by rw [z1]; exact h.sc k hk, fun a a3 a5 a8 a9 a10 => by rw [za a a3 a5]; exact h.ar a a3 a5 a8 a9 a10, fun i hi => by rw [z3, va_up_ne _ _ hi]; exact h.r3 i hi, fun i hi => by rw [z5, va_up_ne _ _ hi]; exact h.r5 i hi, fun i hi hn => by rw [e8]; exact h.pc i hi hn⟩
  · by_cases c3 : a = 3
    · rw [c3, z3]; unfold va_up; split
      · exact hz3
      · exact h.po.wd 3 i
    · by_cases c5 : a = 5
      · rw [c5, z5]; unfold va_up; split
        · exact hz5
        · exact h.po.wd 5 i
      · rw [za a c3 c5]; exact h.po.wd a i
  · rw [z3, show 251 * 0 + f = f by omega, va_up_self]
  · rw [z5, show 251 * 0 + f = f by omega, va_up_self]
  · rw [e8, e9, hb i hi]; exact h.pv.by' i hi
  · rw [e8, e9]; exact h.oth l id p a b c d
theorem MI.file {y w : NSt} {A : AB} (h : MI w A) {f : Nat} {g : FV} (hk : A.T.kd f = 1) (hf1 : 1 ≤ f) (hf : f ≤ 250) (hW : WF y w f g) : MI y (A.w_T (A.T.wFil (va_up A.T.fil f g))) := by
  have far : ∀ (l id : Nat), id ≤ 250 → ¬ (l = 0 ∧ id = f) → 251 * l + id ≠ f := fun l id hid hne => by
    intro e
    refine hne ?_
    omega
  refine h.chg (fun k k0 k11 _ => hW.sc k k11) (fun a q => hW.ar a (by omega) (by omega) (by omega) (by omega) (by omega)) rfl rfl rfl rfl rfl rfl rfl rfl rfl rfl rfl rfl rfl rfl ?_ ?_ ?_ ?_ ?_ ?_ ?_ hW.po
  · rw [hW.sc 12 (by decide)]
    exact h.en.keep (hW.ar 11 (by decide) (by decide) (by decide) (by decide) (by decide)) (hW.ar 12 (by decide) (by decide) (by decide) (by decide) (by decide)) (hW.ar 13 (by decide) (by decide) (by decide) (by decide) (by decide)) (hW.ar 14 (by decide) (by decide) (by decide) (by decide) (by decide))
  · rw [hW.ar 2 (by decide) (by decide) (by decide) (by decide) (by decide)]; exact h.kd
  · rw [hW.ar 4 (by decide) (by decide) (by decide) (by decide) (by decide)]; exact h.lk
  · rw [hW.ar 7 (by decide) (by decide) (by decide) (by decide) (by decide)]; exact h.rn
  · intro id i1 i2
    obtain ⟨a, b⟩ := h.f0 id i1 i2
    by_cases c : id = f
    · rw [c]
      refine ⟨fun _ => ?_, fun q => absurd hk q⟩
      show PV y 0 f (va_up A.T.fil f g f)
      rw [va_up_self]
      exact hW.pv
    · have hne : ¬ (0 = 0 ∧ id = f) := fun w => c w.2
      refine ⟨fun q => ?_, fun q => hW.oth.pn (b q) (by decide) i2 hne⟩
      show PV y 0 id (va_up A.T.fil f g id)
      rw [va_up_ne _ _ c]
      exact hW.oth.pv (a q) (by decide) i2 hne (hW.r3 _ (far 0 id i2 hne)) (hW.r5 _ (far 0 id i2 hne))
  · intro id i1 i2
    obtain ⟨a, b⟩ := h.f1 id i1 i2
    have hne : ¬ (1 = 0 ∧ id = f) := fun w => by omega
    exact ⟨fun q => hW.oth.pv (a q) (by decide) i2 hne (hW.r3 _ (far 1 id i2 hne)) (hW.r5 _ (far 1 id i2 hne)), fun q => hW.oth.pn (b q) (by decide) i2 hne⟩
  · intro id i1 i2
    obtain ⟨a, b⟩ := h.f2 id i1 i2
    have hne : ¬ (2 = 0 ∧ id = f) := fun w => by omega
    exact ⟨fun q => hW.oth.pv (a q) (by decide) i2 hne (hW.r3 _ (far 2 id i2 hne)) (hW.r5 _ (far 2 id i2 hne)), fun q => hW.oth.pn (b q) (by decide) i2 hne⟩
theorem MI.wf {w : NSt} {A : AB} (h : MI w A) {f : Nat} (hk : A.T.kd f = 1) (hf1 : 1 ≤ f) (hf : f ≤ 250) : WF w w f (A.T.fil f) := ⟨h.po, (h.f0 f hf1 hf).1 hk, OTH.rf w f, fun _ _ => rfl, fun _ _ _ _ _ _ => rfl, fun _ _ => rfl, fun _ _ => rfl, fun _ _ _ => rfl⟩
/-- grow -/
def grF (f : FV) (s : Nat) : FV := if f.sm = 1 ∧ 96 < s then FV.of (if f.sz < s then s else f.sz) 0 (fun k => if k = 0 then 1 else 0) f.byt else FV.of (if f.sz < s then s else f.sz) f.sm f.has f.byt
theorem grow_z {FU : Nat} (hF : 140000 < FU) {w : NSt} {A : AB} {s0 : Nat} (h : MI w A) (hA : AI A s0) (hT : AT A) {f s : Nat} (hk : A.T.kd f = 1) (hs : s ≤ 100000) : Ev (Mod_grow FU (nI f) (nI s) (up w)) fun r => ∃ y, r = up y ∧ WF y w f (grF (A.T.fil f) s) := by
  obtain ⟨hf1, hf, -⟩ := hT.t.rng f (by omega)
  have hv := hT.t.fv f hk
  have hW := h.wf hk hf1 hf
  have hpcs := pcs_le h hA hT
  have hsz : w.2 3 f = (A.T.fil f).sz := by
    have := hW.pv.sz
    rw [show 251 * 0 + f = f by omega] at this
    exact this
  have hsm : w.2 5 f = (A.T.fil f).sm := by
    have := hW.pv.sml
    rw [show 251 * 0 + f = f by omega] at this
    exact this
  have hszb := hv.szb
  have hsmb := hv.smb
  obtain ⟨S, eS⟩ : ∃ S, S = (if (A.T.fil f).sz < s then s else (A.T.fil f).sz) := ⟨_, rfl⟩
  have hSb : S ≤ 100000 := by rw [eS]; split <;> omega
  have key : Ev (Mod_grow_b25 FU (nI f) (nI S) (nI f) (up w)) fun r => ∃ y, r = up y ∧ WF y w f (grF (A.T.fil f) s) := by
    unfold Mod_grow_b25
    rw [wrA_z w 3 (by omega) (by decide), Option.bind_some, rdA_z _ 5 (by omega) (by decide), Option.bind_some, show (zA w 3 f S).2 5 = w.2 5 by rw [zA2, if_neg (by decide)], hsm]
    obtain ⟨x, ex⟩ : ∃ x, x = zA w 3 f S := ⟨_, rfl⟩
    have xa : ∀ a, a ≠ 3 → x.2 a = w.2 a := fun a ha => by rw [ex, zA2, if_neg ha]
    have x3 : x.2 3 = va_up (w.2 3) f S := by rw [ex, zA2, if_pos rfl]
    have x1 : x.1 = w.1 := by rw [ex]; rfl
    rw [← ex]
    by_cases c : (A.T.fil f).sm = 1
    · rw [if_neg (show ¬ nI (A.T.fil f).sm = (0 : Int32) by rw [c]; decide), rdA_z x 3 (by omega) (by decide), Option.bind_some, x3, va_up_self]
      have hs96 := (hv.small c).1
      by_cases d : 96 < s
      · have eSs : S = s := by rw [eS, if_pos (by omega)]
        rw [if_neg (show ¬ nI S ≤ (96 : Int32) from fun v => by
          rw [show (96 : Int32) = nI 96 from rfl, nI_leI (by omega) (by decide)] at v
          omega), show nz (0 : Int32) = nI 0 by decide, wrA_z x 5 (by omega) (by decide), Option.bind_some]
        -- a file that is no longer small, before its piece 0 is made sure of
        obtain ⟨v, ev⟩ : ∃ v, v = zA x 5 f 0 := ⟨_, rfl⟩
        rw [← ev, show (0 : Int32) = nI 0 from rfl]
        have hp0 : ∀ p, 1 ≤ p → p < 391 → w.2 8 (pcN 0 f p) = neg1 := hW.pv.s1 c
        have hVW : WF v w f (FV.of S 0 (fun k => if w.2 8 (pcN 0 f k) = neg1 then 0 else 1) (A.T.fil f).byt) := hW.set (z := v) (g' := FV.of S 0 (fun k => if w.2 8 (pcN 0 f k) = neg1 then 0 else 1) (A.T.fil f).byt) (by rw [ev]; exact x1) (fun a a3 a5 => by rw [ev, zA2, if_neg a5, xa a a3]) (by rw [ev, zA2, if_neg (by decide), x3]; rfl) (by rw [ev, zA2, if_pos rfl, xa 5 (by decide)]; rfl) (by show S < 2 ^ 32; omega) (by show 0 < 2 ^ 32; decide) (fun _ p hp => by
          show w.2 8 (pcN 0 f p) = neg1 ↔ (if w.2 8 (pcN 0 f p) = neg1 then 0 else 1) = 0
          by_cases e : w.2 8 (pcN 0 f p) = neg1
          · rw [if_pos e]; exact ⟨fun _ => rfl, fun _ => e⟩
          · rw [if_neg e]; exact ⟨fun q => absurd q e, fun q => by omega⟩) (fun q => absurd q (show ¬ (0 : Nat) = 1 by decide)) (fun i _ => rfl)
        refine (hVW.own hF hpcs hf1 hf (p := 0) (by decide) (fun _ => rfl) hv.byb).bd ?_
        rintro _ ⟨z, t, rfl, hz, -⟩
        refine Ev.ret ⟨z, rfl, ?_⟩
        refine ⟨hz.po, hz.pv.cg ?_ ?_ (fun _ p hp => ?_) (fun i _ => ?_), hz.oth, hz.sc, hz.ar, hz.r3, hz.r5, hz.pc⟩
        · unfold grF; rw [if_pos ⟨c, d⟩, ← eS]; rfl
        · unfold grF; rw [if_pos ⟨c, d⟩]; rfl
        · unfold grF; rw [if_pos ⟨c, d⟩]
          show (if p = 0 then 1 else 0) = 0 ↔ (if p = 0 then 1 else (if w.2 8 (pcN 0 f p) = neg1 then 0 else 1)) = 0
          by_cases e : p = 0
          · rw [if_pos e, if_pos e]
          · rw [if_neg e, if_neg e, if_pos (hp0 p (by omega) hp)]
        · unfold grF; rw [if_pos ⟨c, d⟩]; rfl
      · have hS96 : S ≤ 96 := by rw [eS]; split <;> omega
        rw [if_pos (show nI S ≤ (96 : Int32) from nI_le (b := 96) hS96 (by decide))]
        refine Ev.ret ⟨x, rfl, hW.set x1 (fun a a3 _ => xa a a3) ?_ ?_ ?_ ?_ (fun q => ?_) (fun q => hW.pv.s1 c) (fun i _ => ?_)⟩
        · unfold grF; rw [if_neg (fun q => d q.2), x3]; show _ = va_up (w.2 3) f (if (A.T.fil f).sz < s then s else (A.T.fil f).sz); rw [← eS]
        · unfold grF; rw [if_neg (fun q => d q.2), xa 5 (by decide)]; exact mo_upva hsm
        · unfold grF; rw [if_neg (fun q => d q.2)]; show (if (A.T.fil f).sz < s then s else (A.T.fil f).sz) < 2 ^ 32; rw [← eS]; omega
        · unfold grF; rw [if_neg (fun q => d q.2)]; show (A.T.fil f).sm < 2 ^ 32; omega
        · unfold grF at q; rw [if_neg (fun q => d q.2)] at q
          have q : (A.T.fil f).sm = 0 := q
          omega
        · unfold grF; rw [if_neg (fun q => d q.2)]; rfl
    · have c0 : (A.T.fil f).sm = 0 := by omega
      rw [if_pos (show nI (A.T.fil f).sm = (0 : Int32) by rw [c0]; rfl)]
      refine Ev.ret ⟨x, rfl, hW.set x1 (fun a a3 _ => xa a a3) ?_ ?_ ?_ ?_ (fun q => ?_) (fun q => ?_) (fun i _ => ?_)⟩
      · unfold grF; rw [if_neg (fun q => c q.1), x3]; show _ = va_up (w.2 3) f (if (A.T.fil f).sz < s then s else (A.T.fil f).sz); rw [← eS]
      · unfold grF; rw [if_neg (fun q => c q.1), xa 5 (by decide)]; exact mo_upva hsm
      · unfold grF; rw [if_neg (fun q => c q.1)]; show (if (A.T.fil f).sz < s then s else (A.T.fil f).sz) < 2 ^ 32; rw [← eS]; omega
      · unfold grF; rw [if_neg (fun q => c q.1)]; show (A.T.fil f).sm < 2 ^ 32; omega
      · unfold grF; rw [if_neg (fun q => c q.1)]; exact hW.pv.hs c0
      · unfold grF at q; rw [if_neg (fun q => c q.1)] at q
        exact absurd q c
      · unfold grF; rw [if_neg (fun q => c q.1)]; rfl
  unfold Mod_grow
  rw [rdA_z w 3 (by omega) (by decide), Option.bind_some, hsz]
  by_cases c : (A.T.fil f).sz < s
  · rw [if_neg (nI_ge c (by omega))]
    rw [eS, if_pos c] at key
    exact key
  · rw [if_pos (nI_le (by omega) (by omega)), Option.bind_some]
    rw [eS, if_neg c] at key
    exact key
