/-! the model: write and truncate of a file -/
theorem WF.cg {y w : NSt} {f : Nat} {g g' : FV} (h : WF y w f g) (h1 : g'.sz = g.sz) (h2 : g'.sm = g.sm) (h3 : g.sm = 0 → ∀ p, p < 391 → (g'.has p = 0 ↔ g.has p = 0)) (h4 : ∀ i, i < 100096 → g'.byt i = g.byt i) : WF y w f g' := ⟨h.po, h.pv.cg h1 h2 h3 h4, h.oth, h.sc, h.ar, h.r3, h.r5, h.pc⟩
def wkF (g : FV) (at' k : Nat) (tp : Nat → Nat) : FV := FV.of g.sz g.sm (fun p => if 0 < k ∧ at' / 256 ≤ p ∧ p ≤ (at' + k - 1) / 256 then 1 else g.has p) (fun i => if at' ≤ i ∧ i < at' + k then tp (i - at') else g.byt i)
theorem write_b {FU : Nat} (hF : 140000 < FU) {w : NSt} {A : AB} {s0 : Nat} (h : MI w A) (hA : AI A s0) (hT : AT A) {f at' n : Nat} (hf1 : 1 ≤ f) (hf : f ≤ 250) {g : FV} (hgb : ∀ i, g.byt i < 256) (hgs : g.sm = 1 → at' + n ≤ 96) (hat : at' + n ≤ 100000) (hn : n ≤ 2000) (hsz : g.sz < 2 ^ 32) : ∀ (m k q : Nat) (y : NSt), k + m = n → m < q → WF y w f (wkF g at' k A.tp) → Ev (Mod_write_b108 FU q (nI f) (nI at') (nI n) (nI k) (up y)) fun r => ∃ z, r = (nI g.sz, up z) ∧ WF z w f (wkF g at' n A.tp) := by
  have hpcs := pcs_le h hA hT
  intro m
  induction m with
  | zero =>
    intro k q y h1 h2 hy
    obtain ⟨q, rfl⟩ : ∃ q9, q = q9 + 1 := ⟨q - 1, by omega⟩
    have h1 : k = n := h1
    subst h1
    unfold Mod_write_b108
    have e3 : y.2 3 f = g.sz := by
      have := hy.pv.sz
      rw [show 251 * 0 + f = f by omega] at this
      exact this
    rw [if_pos (nI_le (Nat.le_refl _) (by omega)), rdA_z y 3 (by omega) (by decide), Option.bind_some, e3]
    exact Ev.ret ⟨y, rfl, hy⟩
  | succ m ih =>
    intro k q y h1 h2 hy
    obtain ⟨q, rfl⟩ : ∃ q9, q = q9 + 1 := ⟨q - 1, by omega⟩
    unfold Mod_write_b108
    have hd : (nI at' + nI k) / (256 : Int32) = nI ((at' + k) / 256) := by
      rw [nI_add, show (256 : Int32) = nI 256 from rfl, pk_div (by omega) (by decide) (by decide)]
    have hm : (nI at' + nI k) - nI ((at' + k) / 256) * (256 : Int32) = nI ((at' + k) % 256) := by
      rw [show (256 : Int32) = nI 256 from rfl, pk_mul, nI_add, pk_sub (by omega)]
      congr 1
      omega
    obtain ⟨t1, t2⟩ := h.tp k (by omega)
    have bb : ∀ i, (wkF g at' k A.tp).byt i < 256 := fun i => by
      show (if at' ≤ i ∧ i < at' + k then A.tp (i - at') else g.byt i) < 256
      split
      · exact (h.tp (i - at') (by omega)).2
      · exact hgb i
    rw [if_neg (nI_ge (by omega) (by omega)), hd]
    refine (hy.own hF hpcs hf1 hf (p := (at' + k) / 256) (by omega) (fun q => by
      have := hgs q
      omega) bb).bd ?_
    rintro _ ⟨z, x, rfl, hz, hx, hx6, hx1⟩
    show Ev ((rdA 2060 (up z) 0 (nI k)).bind fun v3 => (wrA 1689600 (up z) 9 (((256 : Int32) * nI x) + ((nI at' + nI k) - nI ((at' + k) / 256) * (256 : Int32))) (nby v3)).bind fun g4 => (Mod_write_b108 FU q) (nI f) (nI at') (nI n) (nI k + (1 : Int32)) g4) _
    rw [rdA_z z 0 (by omega) (by decide), Option.bind_some, hz.ar 0 (by decide) (by decide) (by decide) (by decide) (by decide), t1, nby_s t2, hm, show (256 : Int32) * nI x = nI (256 * x) from pk_mul 256 x, nI_add, wrA_z z 9 (by omega) (by decide), Option.bind_some, nI_1]
    obtain ⟨a1, -⟩ := hz.wr hf (p := (at' + k) / 256) (k := (at' + k) % 256) (b := A.tp k) (by omega) hx hx6 hx1 (Nat.mod_lt _ (by decide)) t2
    refine ih (k + 1) q _ (by omega) (by omega) (a1.cg rfl rfl (fun _ p hp => ?_) (fun i hi => ?_))
    · show (if 0 < k + 1 ∧ at' / 256 ≤ p ∧ p ≤ (at' + (k + 1) - 1) / 256 then 1 else g.has p) = 0 ↔ (if p = (at' + k) / 256 then 1 else (if 0 < k ∧ at' / 256 ≤ p ∧ p ≤ (at' + k - 1) / 256 then 1 else g.has p)) = 0
      by_cases c : p = (at' + k) / 256
      · rw [if_pos (by omega), if_pos c]
      · rw [if_neg c]
        by_cases d : 0 < k ∧ at' / 256 ≤ p ∧ p ≤ (at' + k - 1) / 256
        · rw [if_pos (by omega), if_pos d]
        · rw [if_neg (by omega), if_neg d]
    · show (if at' ≤ i ∧ i < at' + (k + 1) then A.tp (i - at') else g.byt i) = (if i = 256 * ((at' + k) / 256) + (at' + k) % 256 then A.tp k else (if at' ≤ i ∧ i < at' + k then A.tp (i - at') else g.byt i))
      rw [show 256 * ((at' + k) / 256) + (at' + k) % 256 = at' + k by omega]
      by_cases c : i = at' + k
      · rw [if_pos (by omega), if_pos c, c, show at' + k - at' = k by omega]
      · rw [if_neg c]
        by_cases d : at' ≤ i ∧ i < at' + k
        · rw [if_pos (by omega), if_pos d]
        · rw [if_neg (by omega), if_neg d]
theorem grF_sz (f : FV) (s : Nat) : (grF f s).sz = if f.sz < s then s else f.sz := by
  unfold grF
  split <;> rfl
theorem grF_sm (f : FV) (s : Nat) : (grF f s).sm = if f.sm = 1 ∧ 96 < s then 0 else f.sm := by
  unfold grF
  split <;> rfl
theorem grF_byt (f : FV) (s : Nat) : (grF f s).byt = f.byt := by
  unfold grF
  split <;> rfl
theorem grF_has (f : FV) (s k : Nat) : (grF f s).has k = if f.sm = 1 ∧ 96 < s then (if k = 0 then 1 else 0) else f.has k := by
  unfold grF
  by_cases c : f.sm = 1 ∧ 96 < s
  · rw [if_pos c, if_pos c]; rfl
  · rw [if_neg c, if_neg c]; rfl
/-- a file is written -/
theorem writeF_z {FU : Nat} (hF : 140000 < FU) {w : NSt} {A : AB} {s0 : Nat} (h : MI w A) (hA : AI A s0) (hT : AT A) {f at' n : Nat} (hk : A.T.kd f = 1) (hn1 : 1 ≤ n) (hn : n ≤ 2000) (hat : at' + n ≤ 100000) : Ev ((Mod_grow FU (nI f) (nI at' + nI n) (up w)).bind fun p8 => Mod_write_b108 FU FU (nI f) (nI at') (nI n) (0 : Int32) p8) fun r => ∃ y, r = (nI (wrF (A.T.fil f) at' n A.tp).sz, up y) ∧ MI y (A.w_T (A.T.wFil (va_up A.T.fil f (wrF (A.T.fil f) at' n A.tp)))) ∧ y.1 0 = w.1 0 := by
  obtain ⟨hf1, hf, -⟩ := hT.t.rng f (by omega)
  have hv := hT.t.fv f hk
  have hszb := hv.szb
  have hsmb := hv.smb
  rw [nI_add]
  refine (grow_z hF h hA hT hk hat).bd ?_
  rintro _ ⟨y, rfl, hy⟩
  obtain ⟨F, eF⟩ : ∃ F, F = A.T.fil f := ⟨_, rfl⟩
  rw [← eF] at hy hv hszb hsmb ⊢
  have gsz : (grF F (at' + n)).sz < 2 ^ 32 := by rw [grF_sz]; split <;> omega
  rw [show (0 : Int32) = nI 0 from rfl]
  refine (write_b hF h hA hT hf1 hf (g := grF F (at' + n)) (fun i => by rw [grF_byt]; exact hv.byb i) (fun q => by
    rw [grF_sm] at q
    by_cases c : F.sm = 1 ∧ 96 < at' + n
    · rw [if_pos c] at q; omega
    · rw [if_neg c] at q; omega) hat hn gsz n 0 FU y (by omega) (by omega) (hy.cg rfl rfl (fun _ p _ => ?_) (fun i _ => ?_))).mono ?_
  · show (if 0 < 0 ∧ at' / 256 ≤ p ∧ p ≤ (at' + 0 - 1) / 256 then 1 else (grF F (at' + n)).has p) = 0 ↔ (grF F (at' + n)).has p = 0
    rw [if_neg (by omega)]
  · show (if at' ≤ i ∧ i < at' + 0 then A.tp (i - at') else (grF F (at' + n)).byt i) = _
    rw [if_neg (by omega)]
  · rintro _ ⟨z, rfl, hz⟩
    have ez : (grF F (at' + n)).sz = (wrF F at' n A.tp).sz := by rw [grF_sz]; rfl
    have es : (wrF F at' n A.tp).sm = (wkF (grF F (at' + n)) at' n A.tp).sm := by
      show (if F.sm = 1 ∧ at' + n ≤ 96 then 1 else 0) = (grF F (at' + n)).sm
      rw [grF_sm]
      by_cases c : F.sm = 1
      · by_cases d : at' + n ≤ 96
        · rw [if_pos ⟨c, d⟩, if_neg (by omega), c]
        · rw [if_neg (fun v => d v.2), if_pos ⟨c, by omega⟩]
      · rw [if_neg (fun v => c v.1), if_neg (fun v => c v.1)]
        omega
    refine ⟨z, by rw [ez], ?_, hz.sc 0 (by decide)⟩
    rw [eF] at hz ez es ⊢
    refine h.file hk hf1 hf (hz.cg ez.symm es (fun q p hp => ?_) (fun i hi => ?_))
    · rw [← eF] at q ⊢
      have q : (grF F (at' + n)).sm = 0 := q
      rw [grF_sm] at q
      show (if F.sm = 1 ∧ at' + n ≤ 96 then 0 else if (at' / 256 ≤ p ∧ p ≤ (at' + n - 1) / 256) ∨ (F.sm = 1 ∧ p = 0) then 1 else F.has p) = 0 ↔ (if 0 < n ∧ at' / 256 ≤ p ∧ p ≤ (at' + n - 1) / 256 then 1 else (grF F (at' + n)).has p) = 0
      rw [grF_has]
      by_cases c : F.sm = 1 ∧ 96 < at' + n
      · rw [if_neg (show ¬ (F.sm = 1 ∧ at' + n ≤ 96) by omega), if_pos c]
        by_cases d : at' / 256 ≤ p ∧ p ≤ (at' + n - 1) / 256
        · rw [if_pos (Or.inl d), if_pos ⟨by omega, d⟩]
        · rw [if_neg (show ¬ (0 < n ∧ at' / 256 ≤ p ∧ p ≤ (at' + n - 1) / 256) from fun v => d v.2)]
          by_cases e : p = 0
          · rw [if_pos (Or.inr ⟨c.1, e⟩), if_pos e]
          · have hs := (hv.small c.1).2 p (by omega)
            rw [if_neg (show ¬ ((at' / 256 ≤ p ∧ p ≤ (at' + n - 1) / 256) ∨ (F.sm = 1 ∧ p = 0)) from fun v => v.elim d (fun u => e u.2)), if_neg e, hs]
      · rw [if_neg c] at q
        rw [if_neg (show ¬ (F.sm = 1 ∧ at' + n ≤ 96) by omega), if_neg c]
        by_cases d : at' / 256 ≤ p ∧ p ≤ (at' + n - 1) / 256
        · rw [if_pos (Or.inl d), if_pos ⟨by omega, d⟩]
        · rw [if_neg (show ¬ (0 < n ∧ at' / 256 ≤ p ∧ p ≤ (at' + n - 1) / 256) from fun v => d v.2), if_neg (show ¬ ((at' / 256 ≤ p ∧ p ≤ (at' + n - 1) / 256) ∨ (F.sm = 1 ∧ p = 0)) from fun v => v.elim d (fun u => by omega))]
    · rw [← eF]
      show (if at' ≤ i ∧ i < at' + n then A.tp (i - at') % 256 else F.byt i) = (if at' ≤ i ∧ i < at' + n then A.tp (i - at') else (grF F (at' + n)).byt i)
      rw [grF_byt]
      by_cases c : at' ≤ i ∧ i < at' + n
      · rw [if_pos c, if_pos c, Nat.mod_eq_of_lt (h.tp _ (by omega)).2]
      · rw [if_neg c, if_neg c]
/-! truncate -/
def cutF (g : FV) (p0 p : Nat) : FV := FV.of g.sz g.sm (fun k => if p0 ≤ k ∧ k < p then 0 else g.has k) (fun i => if 256 * p0 ≤ i ∧ i < 256 * p then 0 else g.byt i)
theorem WF.lv {y w : NSt} {f : Nat} {g : FV} {p0 p : Nat} (h : WF y w f (cutF g p0 p)) (hf : f ≤ 250) (hp : p < 391) (h0 : p0 ≤ p) : WF (lvZ y (pcN 0 f p)) w f (cutF g p0 (p + 1)) := by
  have hi := pcN_lt (l := 0) (by decide) hf hp
  have e : ∀ p', p' < 391 → p' ≠ p → (lvZ y (pcN 0 f p)).2 8 (pcN 0 f p') = y.2 8 (pcN 0 f p') := fun p' hp' hne => by
    rw [lv_8, va_up_ne _ _ (fun v => hne (pcN_inj hf hf hp' hp v).2.2)]
  have ep : (lvZ y (pcN 0 f p)).2 8 (pcN 0 f p) = neg1 := by rw [lv_8, va_up_self]
  have e9 := lv_a y (pcN 0 f p) (a := 9) (by decide) (by decide)
  refine ⟨lv_po h.po hi, ⟨?_, ?_, fun q p' hp' => ?_, fun q p' p1 hp' => ?_, fun i hi' => ?_⟩, fun l id p' hl hid hp' hne => ?_, fun k hk => by rw [lv_1]; exact h.sc k hk, fun a a3 a5 a8 a9 a10 => by rw [lv_a _ _ a8 a10]; exact h.ar a a3 a5 a8 a9 a10, fun i hi' => by rw [lv_a _ _ (by decide) (by decide)]; exact h.r3 i hi', fun i hi' => by rw [lv_a _ _ (by decide) (by decide)]; exact h.r5 i hi', fun i hi' hn => ?_⟩
  · rw [lv_a _ _ (by decide) (by decide)]; exact h.pv.sz
  · rw [lv_a _ _ (by decide) (by decide)]; exact h.pv.sml
  · show _ ↔ (if p0 ≤ p' ∧ p' < p + 1 then 0 else g.has p') = 0
    by_cases c : p' = p
    · rw [c, ep, if_pos (by omega)]; exact ⟨fun _ => rfl, fun _ => rfl⟩
    · rw [e p' hp' c]
      have := h.pv.hs q p' hp'
      have this : y.2 8 (pcN 0 f p') = neg1 ↔ (if p0 ≤ p' ∧ p' < p then 0 else g.has p') = 0 := this
      rw [this]
      by_cases d : p0 ≤ p' ∧ p' < p
      · rw [if_pos d, if_pos (by omega)]
      · rw [if_neg d, if_neg (by omega)]
  · by_cases c : p' = p
    · rw [c, ep]
    · rw [e p' hp' c]; exact h.pv.s1 q p' p1 hp'
  · obtain ⟨a, b⟩ := h.pv.by' i hi'
    have hp' : i / 256 < 391 := by omega
    show (_ = neg1 → (if 256 * p0 ≤ i ∧ i < 256 * (p + 1) then 0 else g.byt i) = 0) ∧ (_ ≠ neg1 → _ = sxN (if 256 * p0 ≤ i ∧ i < 256 * (p + 1) then 0 else g.byt i))
    by_cases c : i / 256 = p
    · rw [c, ep, if_pos (by omega)]
      exact ⟨fun _ => rfl, fun v => absurd rfl v⟩
    · rw [e _ hp' c, e9]
      have ee : (if 256 * p0 ≤ i ∧ i < 256 * (p + 1) then 0 else g.byt i) = (cutF g p0 p).byt i := by
        show _ = if 256 * p0 ≤ i ∧ i < 256 * p then 0 else g.byt i
        by_cases d : 256 * p0 ≤ i ∧ i < 256 * p
        · rw [if_pos d, if_pos (by omega)]
        · rw [if_neg d, if_neg (by omega)]
      rw [ee]
      exact ⟨a, b⟩
  · obtain ⟨a, b⟩ := h.oth l id p' hl hid hp' hne
    have hn : pcN l id p' ≠ pcN 0 f p := fun v => hne (by
      obtain ⟨q1, q2, -⟩ := pcN_inj hid hf hp' hp v
      exact ⟨q1, q2⟩)
    rw [lv_8, va_up_ne _ _ hn, e9]
    exact ⟨a, b⟩
  · rw [lv_8, va_up_ne _ _ (fun v => hn (by rw [v]; unfold pcN; omega))]
    exact h.pc i hi' hn
def zrF (g : FV) (a b : Nat) : FV := FV.of g.sz g.sm g.has (fun i => if a ≤ i ∧ i < b then 0 else g.byt i)
theorem trun_b {FU : Nat} {w : NSt} {f s : Nat} (hf : f ≤ 250) (hs : s ≤ 100000) {g : FV} (Q : St → Prop) (K : ∀ y, WF y w f (zrF g s (256 * (s / 256) + 256)) → Ev (Mod_truncate_b176 FU (nI f) (nI s) (up y)) Q) {x : Nat} (hx6 : x < 6600) : ∀ (m k q : Nat) (y : NSt), k + m = 256 → s % 256 ≤ k → m < q → WF y w f (zrF g s (256 * (s / 256) + k)) → y.2 8 (pcN 0 f (s / 256)) = x → ocN y x = 1 → Ev (Mod_truncate_b147 FU q (nI f) (nI s) (nI x) (nI k) (up y)) Q := by
  intro m
  induction m with
  | zero =>
    intro k q y h1 h0 h2 hy hx ho
    obtain ⟨q, rfl⟩ : ∃ q9, q = q9 + 1 := ⟨q - 1, by omega⟩
    have h1 : k = 256 := h1
    subst h1
    unfold Mod_truncate_b147
    rw [if_pos (show (256 : Int32) ≤ nI 256 by decide)]
    exact K y hy
  | succ m ih =>
    intro k q y h1 h0 h2 hy hx ho
    obtain ⟨q, rfl⟩ : ∃ q9, q = q9 + 1 := ⟨q - 1, by omega⟩
    unfold Mod_truncate_b147
    rw [if_neg (show ¬ (256 : Int32) ≤ nI k from fun v => by
      rw [show (256 : Int32) = nI 256 from rfl, nI_leI (by decide) (by omega)] at v
      omega), show (256 : Int32) * nI x = nI (256 * x) from pk_mul 256 x, nI_add, show nby (0 : Int32) = nI (sxN 0) by decide, wrA_z y 9 (by omega) (by decide), Option.bind_some, nI_1]
    obtain ⟨a1, a2⟩ := hy.wr hf (p := s / 256) (k := k) (b := 0) (by omega) hx hx6 ho (by omega) (by decide)
    refine ih (k + 1) q _ (by omega) (by omega) (by omega) (a1.cg rfl rfl (fun _ _ _ => Iff.rfl) (fun i _ => ?_)) (by rw [zA2, if_neg (by decide)]; exact hx) a2
    show (if s ≤ i ∧ i < 256 * (s / 256) + (k + 1) then 0 else g.byt i) = (if i = 256 * (s / 256) + k then 0 else (if s ≤ i ∧ i < 256 * (s / 256) + k then 0 else g.byt i))
    by_cases c : i = 256 * (s / 256) + k
    · rw [if_pos (by omega), if_pos c]
    · rw [if_neg c]
      by_cases d : s ≤ i ∧ i < 256 * (s / 256) + k
      · rw [if_pos (by omega), if_pos d]
      · rw [if_neg (by omega), if_neg d]
theorem b176_z (FU : Nat) {y w : NSt} {f s : Nat} (hf1 : 1 ≤ f) (hf : f ≤ 250) (hs : s ≤ 100000) {g t : FV} (h : WF y w f g) (hgs : g.sm ≤ 1) (t1 : t.sz = s) (t2 : t.sm = if g.sm = 1 ∨ s = 0 then 1 else 0) (hh : t.sm = 0 → ∀ p, p < 391 → (y.2 8 (pcN 0 f p) = neg1 ↔ t.has p = 0)) (h1 : t.sm = 1 → ∀ p, 1 ≤ p → p < 391 → y.2 8 (pcN 0 f p) = neg1) (hb : ∀ i, i < 100096 → t.byt i = g.byt i) : Ev (Mod_truncate_b176 FU (nI f) (nI s) (up y)) fun r => ∃ z, r = up z ∧ WF z w f t := by
  unfold Mod_truncate_b176
  have hsm : y.2 5 f = g.sm := by
    have := h.pv.sml
    rw [show 251 * 0 + f = f by omega] at this
    exact this
  rw [wrA_z y 3 (by omega) (by decide), Option.bind_some, rdA_z _ 5 (by omega) (by decide), Option.bind_some, show (zA y 3 f s).2 5 = y.2 5 by rw [zA2, if_neg (by decide)], hsm]
  have fin : ∀ v, t.sm = v → Ev (some (up (zA (zA y 3 f s) 5 f v))) fun r => ∃ z, r = up z ∧ WF z w f t := fun v hv => by
    refine Ev.ret ⟨_, rfl, h.set rfl (fun a a3 a5 => by rw [zA2, if_neg a5, zA2, if_neg a3]) (by rw [zA2, if_neg (by decide), zA2, if_pos rfl, t1]) (by rw [zA2, if_pos rfl, zA2, if_neg (by decide), hv]) (by omega) (by rw [t2]; split <;> decide) hh h1 hb⟩
  by_cases c : g.sm = 1
  · rw [if_neg (show ¬ nI g.sm = (0 : Int32) by rw [c]; decide), show nz (1 : Int32) = nI 1 by decide, wrA_z _ 5 (by omega) (by decide), Option.bind_some]
    exact fin 1 (by rw [t2, if_pos (Or.inl c)])
  · have c0 : g.sm = 0 := by omega
    rw [if_pos (show nI g.sm = (0 : Int32) by rw [c0]; rfl)]
    by_cases d : s = 0
    · rw [if_pos (show nI s = (0 : Int32) by rw [d]; rfl), show nz (1 : Int32) = nI 1 by decide, wrA_z _ 5 (by omega) (by decide), Option.bind_some]
      exact fin 1 (by rw [t2, if_pos (Or.inr d)])
    · rw [if_neg (ne0_I (by omega) d), show nz (0 : Int32) = nI 0 by decide, wrA_z _ 5 (by omega) (by decide), Option.bind_some]
      exact fin 0 (by rw [t2, if_neg (fun v => v.elim c d)])
theorem cut_b {FU : Nat} (hF : 140000 < FU) {w : NSt} {A : AB} {s0 : Nat} (h : MI w A) (hA : AI A s0) (hT : AT A) {f s : Nat} (hk : A.T.kd f = 1) (hs : s ≤ 100000) (hsz : s < (A.T.fil f).sz ∨ s = 0) : ∀ (m p q : Nat) (y : NSt), p + m = 391 → (s + 255) / 256 ≤ p → m < q → WF y w f (cutF (A.T.fil f) ((s + 255) / 256) p) → Ev (Mod_truncate_b81 FU q (nI f) (nI s) (nI p) (up y)) fun r => ∃ z, r = up z ∧ WF z w f (trF (A.T.fil f) s) := by
  obtain ⟨hf1, hf, -⟩ := hT.t.rng f (by omega)
  have hv := hT.t.fv f hk
  have hszb := hv.szb
  have hsmb := hv.smb
  have hpcs := pcs_le h hA hT
  have hnn : neg1 = 4294967295 := rfl
  obtain ⟨F, eF⟩ : ∃ F, F = A.T.fil f := ⟨_, rfl⟩
  rw [← eF] at hv hszb hsmb hsz ⊢
  have tsz : (trF F s).sz = s := by
    unfold trF
    repeat' split
    all_goals rfl
  have tsm : (trF F s).sm = if F.sm = 1 ∨ s = 0 then 1 else 0 := by
    unfold trF
    by_cases c : F.sm = 1
    · have := (hv.small c).1
      rw [if_pos c, if_pos (show s ≤ 96 by omega), if_pos (Or.inl c)]; rfl
    · have c0 : F.sm = 0 := by omega
      have hp := hv.pos c0
      rw [if_neg c, if_pos (show s < F.sz by omega)]
      by_cases d : s = 0
      · rw [if_pos (Or.inr d)]; show (if s = 0 then 1 else 0) = 1; rw [if_pos d]
      · rw [if_neg (show ¬ (F.sm = 1 ∨ s = 0) from fun v => v.elim c d)]; show (if s = 0 then 1 else 0) = 0; rw [if_neg d]
  have tby : ∀ i, (trF F s).byt i = if i < s then F.byt i else 0 := fun i => by
    unfold trF
    by_cases c : F.sm = 1
    · have := (hv.small c).1
      rw [if_pos c, if_pos (show s ≤ 96 by omega)]; rfl
    · have c0 : F.sm = 0 := by omega
      have hp := hv.pos c0
      rw [if_neg c, if_pos (show s < F.sz by omega)]; rfl
  have tha : F.sm = 0 → ∀ k, (trF F s).has k = if 256 * k < s then F.has k else 0 := fun c0 k => by
    unfold trF
    have hp := hv.pos c0
    rw [if_neg (by omega), if_pos (show s < F.sz by omega)]; rfl
  -- the end, once the pieces behind are left and the tail reads as zeros
  have fin : ∀ (y : NSt) (g : FV), WF y w f g → g.sm = F.sm → (F.sm = 0 → ∀ p, (s + 255) / 256 ≤ p → p < 391 → y.2 8 (pcN 0 f p) = neg1) → (F.sm = 0 → ∀ p, p < (s + 255) / 256 → p < 391 → (y.2 8 (pcN 0 f p) = neg1 ↔ F.has p = 0)) → (∀ i, i < 100096 → g.byt i = if i < s then F.byt i else 0) → Ev (Mod_truncate_b176 FU (nI f) (nI s) (up y)) fun r => ∃ z, r = up z ∧ WF z w f (trF F s) := fun y g hy hgs hpc hpc2 hby => by
    refine b176_z FU hf1 hf hs hy (by omega) tsz (by rw [tsm, hgs]) (fun q p hp => ?_) (fun q p p1 hp => ?_) (fun i hi => by rw [tby, hby i hi])
    · rw [tsm] at q
      have c0 : F.sm = 0 := by
        by_cases c : F.sm = 1
        · rw [if_pos (Or.inl c)] at q; omega
        · omega
      rw [tha c0]
      by_cases d : (s + 255) / 256 ≤ p
      · rw [hpc c0 p d hp, if_neg (by omega)]; exact ⟨fun _ => rfl, fun _ => rfl⟩
      · rw [if_pos (by omega)]; exact hpc2 c0 p (by omega) hp
    · rw [tsm] at q
      by_cases c : F.sm = 1
      · have hs1 := hy.pv.s1 (by rw [hgs]; exact c) p p1 hp
        exact hs1
      · have d : s = 0 := Classical.byContradiction (fun v => by rw [if_neg (fun u => u.elim c v)] at q; omega)
        exact hpc (by omega) p (by omega) hp
  intro m
  induction m with
  | zero =>
    intro p q y h1 h0 h2 hy
    obtain ⟨q, rfl⟩ : ∃ q9, q = q9 + 1 := ⟨q - 1, by omega⟩
    have h1 : p = 391 := h1
    subst h1
    have hd : nI s / (256 : Int32) = nI (s / 256) := by
      rw [show (256 : Int32) = nI 256 from rfl, pk_div (by omega) (by decide) (by decide)]
    have hm : nI s - nI s / (256 : Int32) * (256 : Int32) = nI (s % 256) := by
      rw [hd, show (256 : Int32) = nI 256 from rfl, pk_mul, pk_sub (by omega)]
      congr 1
      omega
    have hpc : F.sm = 0 → ∀ p, (s + 255) / 256 ≤ p → p < 391 → y.2 8 (pcN 0 f p) = neg1 := fun c p p0 hp => by
      refine (hy.pv.hs c p hp).mpr ?_
      show (if (s + 255) / 256 ≤ p ∧ p < 391 then 0 else F.has p) = 0
      rw [if_pos ⟨p0, hp⟩]
    have hpc2 : F.sm = 0 → ∀ p, p < (s + 255) / 256 → p < 391 → (y.2 8 (pcN 0 f p) = neg1 ↔ F.has p = 0) := fun c p p0 hp => by
      have := hy.pv.hs c p hp
      have this : y.2 8 (pcN 0 f p) = neg1 ↔ (if (s + 255) / 256 ≤ p ∧ p < 391 then 0 else F.has p) = 0 := this
      rw [if_neg (by omega)] at this
      exact this
    have hcb : ∀ i, (cutF F ((s + 255) / 256) 391).byt i < 256 := fun i => by
      show (if 256 * ((s + 255) / 256) ≤ i ∧ i < 256 * 391 then 0 else F.byt i) < 256
      split
      · decide
      · exact hv.byb i
    unfold Mod_truncate_b81
    rw [if_pos (show (391 : Int32) ≤ nI 391 by decide), hm]
    by_cases c : s % 256 = 0
    · rw [if_pos (show nI (s % 256) ≤ (0 : Int32) by rw [c]; decide)]
      refine fin y _ hy rfl hpc hpc2 (fun i hi => ?_)
      show (if 256 * ((s + 255) / 256) ≤ i ∧ i < 256 * 391 then 0 else F.byt i) = _
      by_cases d : i < s
      · rw [if_neg (by omega), if_pos d]
      · rw [if_pos (by omega), if_neg d]
    · rw [if_neg (show ¬ nI (s % 256) ≤ (0 : Int32) from fun v => by
        rw [show (0 : Int32) = nI 0 from rfl, nI_leI (by omega) (by decide)] at v
        omega), hd, show (0 : Int32) = nI 0 from rfl, at_z, Option.bind_some]
      have hp1 : s / 256 < 391 := by omega
      have hi := pcN_lt (l := 0) (by decide) hf hp1
      have hvp := hy.po.pr _ hi
      rw [rdA_z y 8 hi (by decide), Option.bind_some]
      by_cases d : y.2 8 (pcN 0 f (s / 256)) = neg1
      · rw [if_pos (show nI (y.2 8 (pcN 0 f (s / 256))) < nI 0 from (neg_lt hvp).mpr d)]
        refine fin y _ hy rfl hpc hpc2 (fun i hi => ?_)
        show (if 256 * ((s + 255) / 256) ≤ i ∧ i < 256 * 391 then 0 else F.byt i) = _
        by_cases e : i < s
        · rw [if_neg (by omega), if_pos e]
        · rw [if_neg e]
          by_cases k : 256 * ((s + 255) / 256) ≤ i
          · rw [if_pos ⟨k, by omega⟩]
          · rw [if_neg (by omega)]
            have := (hy.pv.by' i hi).1
            rw [show i / 256 = s / 256 by omega] at this
            have this := this d
            have this : (if 256 * ((s + 255) / 256) ≤ i ∧ i < 256 * 391 then 0 else F.byt i) = 0 := this
            rw [if_neg (by omega)] at this
            exact this
      · rw [if_neg (show ¬ nI (y.2 8 (pcN 0 f (s / 256))) < nI 0 from fun v => d ((neg_lt hvp).mp v))]
        refine (hy.own hF hpcs hf1 hf hp1 (fun q => by
          have q : F.sm = 1 := q
          have := (hv.small q).1
          omega) hcb).bd ?_
        rintro _ ⟨z, x, rfl, hz, hx, hx6, hx1⟩
        refine trun_b (FU := FU) hf hs _ (fun u hu => ?_) hx6 (256 - s % 256) (s % 256) FU z (by omega) (Nat.le_refl _) (by omega) (hz.cg (g' := zrF ((cutF F ((s + 255) / 256) 391).own (s / 256)) s (256 * (s / 256) + s % 256)) rfl rfl (fun _ _ _ => Iff.rfl) (fun i _ => ?_)) hx hx1
        · refine fin u _ hu rfl (fun c0 p p0 hp => ?_) (fun c0 p p0 hp => ?_) (fun i hi => ?_)
          · refine (hu.pv.hs c0 p hp).mpr ?_
            show (if p = s / 256 then 1 else (if (s + 255) / 256 ≤ p ∧ p < 391 then 0 else F.has p)) = 0
            rw [if_neg (by omega), if_pos ⟨p0, hp⟩]
          · refine (hu.pv.hs c0 p hp).trans ?_
            show (if p = s / 256 then 1 else (if (s + 255) / 256 ≤ p ∧ p < 391 then 0 else F.has p)) = 0 ↔ F.has p = 0
            by_cases e : p = s / 256
            · rw [if_pos e]
              have := (hpc2 c0 (s / 256) (by omega) hp1)
              rw [← e] at this
              refine ⟨fun v => by omega, fun v => ?_⟩
              rw [e] at this v
              exact absurd (this.mpr v) d
            · rw [if_neg e, if_neg (by omega)]
          · show (if s ≤ i ∧ i < 256 * (s / 256) + 256 then 0 else (if 256 * ((s + 255) / 256) ≤ i ∧ i < 256 * 391 then 0 else F.byt i)) = if i < s then F.byt i else 0
            by_cases e : i < s
            · rw [if_neg (by omega), if_neg (by omega), if_pos e]
            · rw [if_neg e]
              by_cases k : i < 256 * (s / 256) + 256
              · rw [if_pos ⟨by omega, k⟩]
              · rw [if_neg (by omega), if_pos (by omega)]
        · show (if s ≤ i ∧ i < 256 * (s / 256) + s % 256 then 0 else (if 256 * ((s + 255) / 256) ≤ i ∧ i < 256 * 391 then 0 else F.byt i)) = (if 256 * ((s + 255) / 256) ≤ i ∧ i < 256 * 391 then 0 else F.byt i)
          rw [if_neg (by omega)]
  | succ m ih =>
    intro p q y h1 h0 h2 hy
    obtain ⟨q, rfl⟩ : ∃ q9, q = q9 + 1 := ⟨q - 1, by omega⟩
    unfold Mod_truncate_b81
    rw [if_neg (show ¬ (391 : Int32) ≤ nI p from fun v => by
      rw [show (391 : Int32) = nI 391 from rfl, nI_leI (by decide) (by omega)] at v
      omega), show (0 : Int32) = nI 0 from rfl, at_z, Option.bind_some, leave_z FU hy.po (pcN_lt (by decide) hf (by omega)), Option.bind_some, nI_1]
    exact ih (p + 1) q _ (by omega) (by omega) (by omega) (hy.lv hf (by omega) h0)
