/-! the model: a piece of one's own -/
def OWN1 (y w : NSt) (i x : Nat) : Prop := (x < 6600) ∧ (PO y) ∧ (y.2 8 = va_up (w.2 8) i x) ∧ (ocN y x = 1) ∧ (∀ k, k ≠ 11 → y.1 k = w.1 k) ∧ (∀ a, a ≠ 8 → a ≠ 9 → a ≠ 10 → y.2 a = w.2 a) ∧ (∀ j, j < 294423 → j ≠ i → w.2 8 j ≠ neg1 → w.2 8 j ≠ x ∧ ∀ k, k < 256 → y.2 9 (256 * w.2 8 j + k) = w.2 9 (256 * w.2 8 j + k)) ∧ (∀ k, k < 256 → y.2 9 (256 * x + k) = if w.2 8 i = neg1 then 0 else w.2 9 (256 * w.2 8 i + k))
theorem OWN1.lt {y w : NSt} {i x : Nat} (h9 : OWN1 y w i x) : x < 6600 := h9.1
theorem OWN1.po {y w : NSt} {i x : Nat} (h9 : OWN1 y w i x) : PO y := h9.2.1
theorem OWN1.pc {y w : NSt} {i x : Nat} (h9 : OWN1 y w i x) : y.2 8 = va_up (w.2 8) i x := h9.2.2.1
theorem OWN1.one {y w : NSt} {i x : Nat} (h9 : OWN1 y w i x) : ocN y x = 1 := h9.2.2.2.1
theorem OWN1.sc {y w : NSt} {i x : Nat} (h9 : OWN1 y w i x) : ∀ k, k ≠ 11 → y.1 k = w.1 k := h9.2.2.2.2.1
theorem OWN1.ar {y w : NSt} {i x : Nat} (h9 : OWN1 y w i x) : ∀ a, a ≠ 8 → a ≠ 9 → a ≠ 10 → y.2 a = w.2 a := h9.2.2.2.2.2.1
theorem OWN1.oth {y w : NSt} {i x : Nat} (h9 : OWN1 y w i x) : ∀ j, j < 294423 → j ≠ i → w.2 8 j ≠ neg1 → w.2 8 j ≠ x ∧ ∀ k, k < 256 → y.2 9 (256 * w.2 8 j + k) = w.2 9 (256 * w.2 8 j + k) := h9.2.2.2.2.2.2.1
theorem OWN1.own {y w : NSt} {i x : Nat} (h9 : OWN1 y w i x) : ∀ k, k < 256 → y.2 9 (256 * x + k) = if w.2 8 i = neg1 then 0 else w.2 9 (256 * w.2 8 i + k) := h9.2.2.2.2.2.2.2
theorem mo_upva {f : Nat → Nat} {i v : Nat} (h : f i = v) : f = va_up f i v := by
  funext j
  by_cases c : j = i
  · rw [c, va_up_self, h]
  · rw [va_up_ne _ _ c]
theorem ownC_b (FU : Nat) {v : NSt} {i was x : Nat} (hi : i < 294423) (hw : was < 6600) (hx : x < 6600) (hne : was ≠ x) (hnb : ∀ k, k < 256 → v.2 9 (256 * was + k) = sxN (v.2 9 (256 * was + k) % 256)) (h10 : 1 ≤ v.2 10 was) : ∀ (m k q : Nat) (y : NSt), k + m = 256 → m < q → y.1 = v.1 → (∀ a, a ≠ 9 → y.2 a = v.2 a) → (∀ j, y.2 9 j = if 256 * x ≤ j ∧ j < 256 * x + k then v.2 9 (256 * was + (j - 256 * x)) else v.2 9 j) →
    Ev (Mod_own_b48 FU q (nI i) (nI was) (nI x) (nI k) (up y)) fun r => ∃ z, r = (nI x, up z) ∧ z.1 = v.1 ∧ (∀ a, a ≠ 8 → a ≠ 9 → a ≠ 10 → z.2 a = v.2 a) ∧ z.2 8 = va_up (v.2 8) i x ∧ z.2 10 = va_up (v.2 10) was (v.2 10 was - 1) ∧ ∀ j, z.2 9 j = if 256 * x ≤ j ∧ j < 256 * x + 256 then v.2 9 (256 * was + (j - 256 * x)) else v.2 9 j := by
  intro m
  induction m with
  | zero =>
    intro k q y h1 h2 y1 ya y9
    obtain ⟨q, rfl⟩ : ∃ q9, q = q9 + 1 := ⟨q - 1, by omega⟩
    have h1 : k = 256 := h1
    subst h1
    unfold Mod_own_b48
    rw [if_pos (show (256 : Int32) ≤ nI 256 by decide), rdA_z y 10 hw (by decide), Option.bind_some, ya 10 (by decide), show (1 : Int32) = nI 1 from rfl, pk_sub h10, wrA_z y 10 hw (by decide), Option.bind_some, wrA_z _ 8 hi (by decide), Option.bind_some]
    refine Ev.ret ⟨_, rfl, y1, fun a a1 a2 a3 => ?_, ?_, ?_, fun j => ?_⟩
    · rw [zA2, if_neg a1, zA2, if_neg a3, ya a a2]
    · rw [zA2, if_pos rfl, zA2, if_neg (by decide), ya 8 (by decide)]
    · rw [zA2, if_neg (by decide), zA2, if_pos rfl, ya 10 (by decide)]
    · rw [zA2, if_neg (by decide), zA2, if_neg (by decide)]
      exact y9 j
  | succ m ih =>
    intro k q y h1 h2 y1 ya y9
    obtain ⟨q, rfl⟩ : ∃ q9, q = q9 + 1 := ⟨q - 1, by omega⟩
    unfold Mod_own_b48
    have er : y.2 9 (256 * was + k) = v.2 9 (256 * was + k) := by
      rw [y9, if_neg (by omega)]
    rw [if_neg (show ¬ (256 : Int32) ≤ nI k from fun v => by
      rw [show (256 : Int32) = nI 256 from rfl, nI_leI (by decide) (by omega)] at v
      omega), show (256 : Int32) * nI was = nI (256 * was) from pk_mul 256 was, nI_add, rdA_z y 9 (by omega) (by decide), Option.bind_some, er, nby_n, ← hnb k (by omega), show (256 : Int32) * nI x = nI (256 * x) from pk_mul 256 x, nI_add, wrA_z y 9 (by omega) (by decide), Option.bind_some, nI_1]
    refine ih (k + 1) q _ (by omega) (by omega) y1 (fun a ha => by rw [zA2, if_neg ha]; exact ya a ha) (fun j => ?_)
    rw [zA2, if_pos rfl]
    show (if j = 256 * x + k then v.2 9 (256 * was + k) else y.2 9 j) = _
    rw [y9]
    by_cases c : j = 256 * x + k
    · rw [if_pos c, if_pos (by omega), c, show 256 * x + k - 256 * x = k by omega]
    · rw [if_neg c]
      by_cases d : 256 * x ≤ j ∧ j < 256 * x + k
      · rw [if_pos d, if_pos (by omega)]
      · rw [if_neg d, if_neg (by omega)]
theorem own_e {FU : Nat} (hF : 140000 < FU) {w : NSt} (h : PO w) (hp : pcs w < 6600) {id p : Nat} (hid : id ≤ 250) (hpp : p < 391) (hnb : w.2 8 (pcN 0 id p) ≠ neg1 → ∀ k, k < 256 → w.2 9 (256 * w.2 8 (pcN 0 id p) + k) = sxN (w.2 9 (256 * w.2 8 (pcN 0 id p) + k) % 256)) :
    Ev (Mod_own FU (nI id) (nI p) (up w)) fun r => ∃ y x, r = (nI x, up y) ∧ OWN1 y w (pcN 0 id p) x := by
  have hi := pcN_lt (l := 0) (by decide) hid hpp
  have hn : neg1 = 4294967295 := rfl
  obtain ⟨i, ei⟩ : ∃ i, i = pcN 0 id p := ⟨_, rfl⟩
  rw [← ei] at hi hnb ⊢
  unfold Mod_own
  rw [show (0 : Int32) = nI 0 from rfl, at_z, ← ei, Option.bind_some, rdA_z w 8 hi (by decide), Option.bind_some]
  have hv := h.pr i hi
  have hfree := free_ex h hp
  by_cases c : w.2 8 i = neg1
  · rw [if_pos (show nI (w.2 8 i) < nI 0 from (neg_lt hv).mpr c)]
    unfold Mod_own_b34
    refine (take_z hF h hfree).bd ?_
    rintro _ ⟨v, x, rfl, v1, v2, v3, v4, v5, v6, v7⟩
    have o0 : ocN w x = 0 := by rw [← h.oc x v1]; exact v2
    rw [if_pos (show nI (w.2 8 i) < (0 : Int32) from (neg_lt hv).mpr c)]
    show Ev ((wrA 294423 (up v) 8 (nI i) (nI x)).bind _) _
    rw [wrA_z v 8 hi (by decide), Option.bind_some]
    have y8 : (zA v 8 i x).2 8 = va_up (w.2 8) i x := by rw [zA2, if_pos rfl, v5 8 (by decide) (by decide)]
    have hu := fun t => ocN_up (w := w) (y := zA v 8 i x) hi y8 t
    have hwd : ∀ a j, (zA v 8 i x).2 a j < 2 ^ 32 := fun a j => by
      by_cases c8 : a = 8
      · rw [c8, y8]; unfold va_up; split
        · omega
        · exact h.wd 8 j
      · rw [zA2, if_neg c8]
        by_cases c9 : a = 9
        · rw [c9, v7]; split
          · decide
          · exact h.wd 9 j
        · by_cases c10 : a = 10
          · rw [c10, v6]; unfold va_up; split
            · decide
            · exact h.wd 10 j
          · rw [v5 a c9 c10]; exact h.wd a j
    refine Ev.ret ⟨zA v 8 i x, x, rfl, v1, ⟨fun j hj => ?_, fun t ht => ?_, by rw [zA1, v3]; exact v1, hwd⟩, y8, ?_, fun k hk => by rw [zA1]; exact v4 k hk, fun a a1 a2 a3 => by rw [zA2, if_neg a1]; exact v5 a a2 a3, fun j hj hji hjn => ?_, fun k hk => ?_⟩
    · rw [y8]; unfold va_up; split
      · exact Or.inr v1
      · exact h.pr j hj
    · have hu := hu t
      rw [c, if_neg (show ¬ neg1 = t by omega)] at hu
      rw [zA2, if_neg (by decide), v6]
      by_cases d : t = x
      · rw [d, va_up_self]
        rw [d, if_pos rfl] at hu
        omega
      · rw [va_up_ne _ _ d, h.oc t ht]
        rw [if_neg (Ne.symm d)] at hu
        omega
    · have hu := hu x
      rw [c, if_neg (show ¬ neg1 = x by omega), if_pos rfl] at hu
      omega
    · have hne : w.2 8 j ≠ x := ocN_0 o0 hj
      refine ⟨hne, fun k hk => ?_⟩
      rw [zA2, if_neg (by decide), v7, if_neg (by omega)]
    · rw [zA2, if_neg (by decide), v7, if_pos (by omega), if_pos c]
  · have h6 : w.2 8 i < 6600 := hv.elim (fun q => absurd q c) (fun q => q)
    have oc1 := ocN_1 (w := w) hi rfl
    have ocb := ocN_le w (w.2 8 i)
    rw [if_neg (show ¬ nI (w.2 8 i) < nI 0 from fun q => c ((neg_lt hv).mp q)), rdA_z w 10 h6 (by decide), Option.bind_some, h.oc _ h6]
    by_cases d : ocN w (w.2 8 i) = 1
    · rw [if_pos (show nI (ocN w (w.2 8 i)) = (1 : Int32) by rw [d]; rfl)]
      refine Ev.ret ⟨w, w.2 8 i, rfl, h6, h, mo_upva rfl, d, fun _ _ => rfl, fun _ _ _ _ => rfl, fun j hj hji hjn => ⟨fun e => ?_, fun _ _ => rfl⟩, fun k hk => by rw [if_neg c]⟩
      have := ocN_two hj hi hji e rfl
      omega
    · rw [if_neg (fun q : nI (ocN w (w.2 8 i)) = (1 : Int32) => d ((eqN (by omega) (c := 1) (by decide)).mp q))]
      unfold Mod_own_b34
      refine (take_z hF h hfree).bd ?_
      rintro _ ⟨v, x, rfl, v1, v2, v3, v4, v5, v6, v7⟩
      have o0 : ocN w x = 0 := by rw [← h.oc x v1]; exact v2
      have hne : w.2 8 i ≠ x := ocN_0 o0 hi
      rw [if_neg (show ¬ nI (w.2 8 i) < (0 : Int32) from fun q => c ((neg_lt hv).mp q))]
      obtain ⟨was, ew⟩ : ∃ was, was = w.2 8 i := ⟨_, rfl⟩
      rw [← ew] at h6 oc1 ocb hne hnb c d ⊢
      have v9w : ∀ k, k < 256 → v.2 9 (256 * was + k) = w.2 9 (256 * was + k) := fun k hk => by rw [v7, if_neg (by omega)]
      have v10w : v.2 10 was = ocN w was := by rw [v6, va_up_ne _ _ hne, h.oc _ h6]
      show Ev (Mod_own_b48 FU FU (nI i) (nI was) (nI x) (nI 0) (up v)) _
      refine (ownC_b FU hi h6 v1 hne (fun k hk => by rw [v9w k hk]; exact hnb c k hk) (by omega) 256 0 FU v (by omega) (by omega) rfl (fun _ _ => rfl) (fun j => by rw [if_neg (by omega)])).mono ?_
      rintro _ ⟨y, rfl, y1, ya, y8, y10, y9⟩
      rw [v5 8 (by decide) (by decide)] at y8
      have hu := fun t => ocN_up (w := w) (y := y) hi y8 t
      have y9' : ∀ j, y.2 9 j = if 256 * x ≤ j ∧ j < 256 * x + 256 then w.2 9 (256 * was + (j - 256 * x)) else w.2 9 j := fun j => by
        rw [y9]
        by_cases e : 256 * x ≤ j ∧ j < 256 * x + 256
        · rw [if_pos e, if_pos e, v9w _ (by omega)]
        · rw [if_neg e, if_neg e, v7, if_neg e]
      refine ⟨y, x, rfl, v1, ⟨fun j hj => ?_, fun t ht => ?_, by rw [y1, v3]; exact v1, fun a j => ?_⟩, y8, ?_, fun k hk => by rw [y1]; exact v4 k hk, fun a a1 a2 a3 => by rw [ya a a1 a2 a3]; exact v5 a a2 a3, fun j hj hji hjn => ?_, fun k hk => ?_⟩
      · rw [y8]; unfold va_up; split
        · exact Or.inr v1
        · exact h.pr j hj
      · have hu := hu t
        rw [← ew] at hu
        rw [y10, v10w]
        by_cases e : t = was
        · rw [e, va_up_self]
          rw [e, if_pos rfl, if_neg (Ne.symm hne)] at hu
          omega
        · rw [va_up_ne _ _ e, v6]
          rw [if_neg (Ne.symm e)] at hu
          by_cases f : t = x
          · rw [f, va_up_self]
            rw [f, if_pos rfl] at hu
            omega
          · rw [va_up_ne _ _ f, h.oc t ht]
            rw [if_neg (Ne.symm f)] at hu
            omega
      · by_cases c8 : a = 8
        · rw [c8, y8]; unfold va_up; split
          · omega
          · exact h.wd 8 j
        · by_cases c9 : a = 9
          · rw [c9, y9']; split <;> exact h.wd 9 _
          · by_cases c10 : a = 10
            · rw [c10, y10]; unfold va_up; split
              · omega
              · rw [v6]; unfold va_up; split
                · decide
                · exact h.wd 10 j
            · rw [ya a c8 c9 c10, v5 a c9 c10]; exact h.wd a j
      · have hu := hu x
        rw [← ew, if_neg hne, if_pos rfl] at hu
        omega
      · have hjx : w.2 8 j ≠ x := ocN_0 o0 hj
        refine ⟨hjx, fun k hk => ?_⟩
        rw [y9', if_neg (by omega)]
      · rw [y9', if_pos (by omega), ← ew, if_neg c, show 256 * x + k - 256 * x = k by omega]
/-! files under own -/
def FV.own (g : FV) (p : Nat) : FV := FV.of g.sz g.sm (fun k => if k = p then 1 else g.has k) g.byt
def FV.wr1 (g : FV) (i b : Nat) : FV := FV.of g.sz g.sm g.has (fun j => if j = i then b else g.byt j)
theorem PV.nb {w : NSt} {l id : Nat} {f : FV} (h : PV w l id f) (hb : ∀ i, f.byt i < 256) {p : Nat} (hp : p < 391) : w.2 8 (pcN l id p) ≠ neg1 → ∀ k, k < 256 → w.2 9 (256 * w.2 8 (pcN l id p) + k) = sxN (w.2 9 (256 * w.2 8 (pcN l id p) + k) % 256) := fun q k hk => by
  have := (h.by' (256 * p + k) (by omega)).2
  rw [show (256 * p + k) / 256 = p by omega, show (256 * p + k) % 256 = k by omega] at this
  rw [this q, sxN_md (hb _)]
/-- everything but one file -/
def OTH (y w : NSt) (f : Nat) : Prop := ∀ l id p, l ≤ 2 → id ≤ 250 → p < 391 → ¬ (l = 0 ∧ id = f) → y.2 8 (pcN l id p) = w.2 8 (pcN l id p) ∧ (w.2 8 (pcN l id p) ≠ neg1 → ∀ k, k < 256 → y.2 9 (256 * w.2 8 (pcN l id p) + k) = w.2 9 (256 * w.2 8 (pcN l id p) + k))
theorem OTH.rf (w : NSt) (f : Nat) : OTH w w f := fun _ _ _ _ _ _ _ => ⟨rfl, fun _ _ _ => rfl⟩
theorem OTH.trans {x y w : NSt} {f : Nat} (h : OTH x y f) (g : OTH y w f) : OTH x w f := fun l id p a b c d => by
  obtain ⟨h1, h2⟩ := h l id p a b c d
  obtain ⟨g1, g2⟩ := g l id p a b c d
  rw [g1] at h1 h2
  exact ⟨h1, fun q k hk => by rw [h2 q k hk, g2 q k hk]⟩
theorem OTH.pv {y w : NSt} {f : Nat} (h : OTH y w f) {l id : Nat} {g : FV} (hp : PV w l id g) (hl : l ≤ 2) (hid : id ≤ 250) (hne : ¬ (l = 0 ∧ id = f)) (h3 : y.2 3 (251 * l + id) = w.2 3 (251 * l + id)) (h5 : y.2 5 (251 * l + id) = w.2 5 (251 * l + id)) : PV y l id g := by
  have e : ∀ p, p < 391 → y.2 8 (pcN l id p) = w.2 8 (pcN l id p) := fun p hp => (h l id p hl hid hp hne).1
  refine ⟨by rw [h3]; exact hp.sz, by rw [h5]; exact hp.sml, fun q p hp' => by rw [e p hp']; exact hp.hs q p hp', fun q p p1 hp' => by rw [e p hp']; exact hp.s1 q p p1 hp', fun i hi => ?_⟩
  have hp' : i / 256 < 391 := by omega
  obtain ⟨a, b⟩ := hp.by' i hi
  rw [e _ hp']
  refine ⟨a, fun q => ?_⟩
  rw [(h l id _ hl hid hp' hne).2 q _ (Nat.mod_lt _ (by decide))]
  exact b q
theorem OTH.pn {y w : NSt} {f : Nat} (h : OTH y w f) {l id : Nat} (hp : PN0 w l id) (hl : l ≤ 2) (hid : id ≤ 250) (hne : ¬ (l = 0 ∧ id = f)) : PN0 y l id := fun p hp' => by
  rw [(h l id p hl hid hp' hne).1]; exact hp p hp'
theorem OWN1.oth' {y w : NSt} {f p x : Nat} (h : OWN1 y w (pcN 0 f p) x) (hf : f ≤ 250) (hp : p < 391) : OTH y w f := fun l id p' hl hid hp' hne => by
  have hn : pcN l id p' ≠ pcN 0 f p := fun e => hne (by
    obtain ⟨a, b, -⟩ := pcN_inj hid hf hp' hp e
    exact ⟨a, b⟩)
  refine ⟨by rw [h.pc, va_up_ne _ _ hn], fun q k hk => (h.oth _ (pcN_lt hl hid hp') hn q).2 k hk⟩
theorem OWN1.pv {y w : NSt} {f p x : Nat} {g : FV} (h : OWN1 y w (pcN 0 f p) x) (hg : PV w 0 f g) (hf : f ≤ 250) (hp : p < 391) (hs : g.sm = 1 → p = 0) : PV y 0 f (g.own p) := by
  have hn : neg1 = 4294967295 := rfl
  have hx := h.lt
  have e : ∀ p', p' < 391 → p' ≠ p → y.2 8 (pcN 0 f p') = w.2 8 (pcN 0 f p') := fun p' hp' hne => by
    rw [h.pc, va_up_ne _ _ (fun v => hne (pcN_inj hf hf hp' hp v).2.2)]
  have ep : y.2 8 (pcN 0 f p) = x := by rw [h.pc, va_up_self]
  refine ⟨by rw [h.ar 3 (by decide) (by decide) (by decide)]; exact hg.sz, by rw [h.ar 5 (by decide) (by decide) (by decide)]; exact hg.sml, fun q p' hp' => ?_, fun q p' p1 hp' => ?_, fun i hi => ?_⟩
  · show y.2 8 (pcN 0 f p') = neg1 ↔ (if p' = p then 1 else g.has p') = 0
    by_cases c : p' = p
    · rw [c, ep, if_pos rfl]
      exact ⟨fun v => by omega, fun v => by omega⟩
    · rw [e p' hp' c, if_neg c]
      exact hg.hs q p' hp'
  · rw [e p' hp' (by have := hs q; omega)]
    exact hg.s1 q p' p1 hp'
  · have hp' : i / 256 < 391 := by omega
    obtain ⟨a, b⟩ := hg.by' i hi
    by_cases c : i / 256 = p
    · rw [c, ep]
      refine ⟨fun v => by omega, fun _ => ?_⟩
      rw [h.own _ (Nat.mod_lt _ (by decide))]
      rw [c] at a b
      by_cases d : w.2 8 (pcN 0 f p) = neg1
      · rw [if_pos d]
        show 0 = sxN (g.byt i)
        rw [a d]; rfl
      · rw [if_neg d]; exact b d
    · rw [e _ hp' c]
      refine ⟨a, fun q => ?_⟩
      have hne : pcN 0 f (i / 256) ≠ pcN 0 f p := fun v => c (pcN_inj hf hf hp' hp v).2.2
      rw [(h.oth _ (pcN_lt (by decide) hf hp') hne q).2 _ (Nat.mod_lt _ (by decide))]
      exact b q
/-- a byte into a piece of one's own -/
theorem pw_pv {y : NSt} {f p x k b : Nat} {g : FV} (hg : PV y 0 f g) (hf : f ≤ 250) (hp : p < 391) (hx : y.2 8 (pcN 0 f p) = x) (hx6 : x < 6600) (h1 : ocN y x = 1) (hpo : PO y) (hk : k < 256) (hb : b < 256) : PV (zA y 9 (256 * x + k) (sxN b)) 0 f (g.wr1 (256 * p + k) b) ∧ OTH (zA y 9 (256 * x + k) (sxN b)) y f ∧ PO (zA y 9 (256 * x + k) (sxN b)) ∧ ocN (zA y 9 (256 * x + k) (sxN b)) x = 1 := by
  have hn : neg1 = 4294967295 := rfl
  have z8 : (zA y 9 (256 * x + k) (sxN b)).2 8 = y.2 8 := by rw [zA2, if_neg (by decide)]
  have z9 : ∀ j, (zA y 9 (256 * x + k) (sxN b)).2 9 j = if j = 256 * x + k then sxN b else y.2 9 j := fun j => by rw [zA2, if_pos rfl]; rfl
  have far : ∀ j, j < 294423 → j ≠ pcN 0 f p → y.2 8 j ≠ x := fun j hj hne e => by
    have := ocN_two hj (pcN_lt (by decide) hf hp) hne e hx
    omega
  refine ⟨⟨by rw [zA2, if_neg (by decide)]; exact hg.sz, by rw [zA2, if_neg (by decide)]; exact hg.sml, by rw [z8]; exact hg.hs, by rw [z8]; exact hg.s1, fun i hi => ?_⟩, fun l id p' hl hid hp' hne => ⟨by rw [z8], fun q k' hk' => ?_⟩, hpo.keep hpo.se z8 (by rw [zA2, if_neg (by decide)]) (fun a j => ?_), ?_⟩
  · obtain ⟨a, c⟩ := hg.by' i hi
    rw [z8]
    show (y.2 8 (pcN 0 f (i / 256)) = neg1 → (if i = 256 * p + k then b else g.byt i) = 0) ∧ (y.2 8 (pcN 0 f (i / 256)) ≠ neg1 → (zA y 9 (256 * x + k) (sxN b)).2 9 (256 * y.2 8 (pcN 0 f (i / 256)) + i % 256) = sxN (if i = 256 * p + k then b else g.byt i))
    have hp' : i / 256 < 391 := by omega
    by_cases e : i / 256 = p
    · rw [e, hx]
      rw [e, hx] at c
      refine ⟨fun v => by omega, fun v => ?_⟩
      rw [z9]
      by_cases d : i = 256 * p + k
      · rw [if_pos (by omega), if_pos d]
      · rw [if_neg (by omega), if_neg d]; exact c v
    · have hne : pcN 0 f (i / 256) ≠ pcN 0 f p := fun v => e (pcN_inj hf hf hp' hp v).2.2
      have := far _ (pcN_lt (by decide) hf hp') hne
      rw [if_neg (by omega), z9, if_neg (by omega)]
      exact ⟨a, c⟩
  · have hn' : pcN l id p' ≠ pcN 0 f p := fun e => hne (by
      obtain ⟨a, b, -⟩ := pcN_inj hid hf hp' hp e
      exact ⟨a, b⟩)
    have := far _ (pcN_lt hl hid hp') hn'
    rw [z9, if_neg (by omega)]
  · rw [zA2]
    by_cases c : a = 9
    · rw [if_pos c]; unfold va_up; split
      · exact sxN_lt hb
      · exact hpo.wd 9 j
    · rw [if_neg c]; exact hpo.wd a j
  · unfold ocN at h1 ⊢
    rw [z8]; exact h1
/-! how many pieces there are -/
theorem pcs_own {y w : NSt} {i x : Nat} (hi : i < 294423) (hx : x < 6600) (h8 : y.2 8 = va_up (w.2 8) i x) : pcs y ≤ pcs w + 1 := by
  have h := sm_up (f := fun j => if w.2 8 j = neg1 then 0 else 1) (i := i) (v := 1) (n := NPC) (by rw [NPC_eq]; exact hi)
  have e : sm (va_up (fun j => if w.2 8 j = neg1 then 0 else 1) i 1) NPC = pcs y := by
    unfold pcs
    refine sm_congr (fun j _ => ?_)
    rw [h8]
    by_cases c : j = i
    · rw [c, va_up_self, va_up_self, if_neg (by unfold neg1; omega)]
    · rw [va_up_ne _ _ c, va_up_ne _ _ c]
  rw [e] at h
  unfold pcs at h ⊢
  omega
/-- pieces but one file's -/
noncomputable def pcx (w : NSt) (f : Nat) : Nat := sm (fun i => if w.2 8 i = neg1 ∨ (pcN 0 f 0 ≤ i ∧ i < pcN 0 f 391) then 0 else 1) NPC
theorem pcx_le (w : NSt) (f : Nat) : pcx w f ≤ pcs w ∧ pcs w ≤ pcx w f + 391 := by
  constructor
  · refine sm_le (fun i _ => ?_)
    by_cases c : w.2 8 i = neg1
    · rw [if_pos (Or.inl c)]; exact Nat.zero_le _
    · rw [if_neg c]; split <;> omega
  · have r := sm_rng (a := pcN 0 f 0) (b := pcN 0 f 390) (by unfold pcN; omega) NPC
    have e1 : pcN 0 f 390 - pcN 0 f 0 + 1 = 391 := by unfold pcN; omega
    have e2 : pcN 0 f 391 = pcN 0 f 390 + 1 := by unfold pcN; omega
    have := sm_le (f := fun i => if w.2 8 i = neg1 then 0 else 1) (g := fun i => (if w.2 8 i = neg1 ∨ (pcN 0 f 0 ≤ i ∧ i < pcN 0 f 391) then 0 else 1) + (if pcN 0 f 0 ≤ i ∧ i ≤ pcN 0 f 390 then 1 else 0)) (n := NPC) (fun i _ => by
      by_cases c : w.2 8 i = neg1
      · rw [if_pos c]; exact Nat.zero_le _
      · rw [if_neg c]
        by_cases d : pcN 0 f 0 ≤ i ∧ i ≤ pcN 0 f 390
        · rw [if_pos d]; omega
        · rw [if_neg (show ¬ (w.2 8 i = neg1 ∨ (pcN 0 f 0 ≤ i ∧ i < pcN 0 f 391)) from fun v => by
            rcases v with v | v
            · exact c v
            · omega)]
          omega)
    rw [sm_add] at this
    unfold pcs pcx
    omega
theorem pcx_keep {y w : NSt} {f : Nat} (h : ∀ i, i < 294423 → ¬ (pcN 0 f 0 ≤ i ∧ i < pcN 0 f 391) → y.2 8 i = w.2 8 i) : pcx y f = pcx w f := by
  unfold pcx
  refine sm_congr (fun i hi => ?_)
  rw [NPC_eq] at hi
  by_cases c : pcN 0 f 0 ≤ i ∧ i < pcN 0 f 391
  · rw [if_pos (Or.inr c), if_pos (Or.inr c)]
  · rw [h i hi c]
theorem PV.cnt {w : NSt} {l id : Nat} {f : FV} (h : PV w l id f) (hs : f.sm ≤ 1) : sm (fun p => if w.2 8 (pcN l id p) = neg1 then 0 else 1) 391 ≤ auF f := by
  have a1 : 1 + sm (fun k => if f.has k = 0 then 0 else 1) 412 ≤ auF f := by
    unfold auF
    omega
  by_cases c : f.sm = 0
  · have := sm_congr (f := fun p => if w.2 8 (pcN l id p) = neg1 then 0 else 1) (g := fun p => if f.has p = 0 then 0 else 1) (n := 391) (fun p hp => by
      have e := h.hs c p hp
      by_cases d : f.has p = 0
      · rw [if_pos d, if_pos (e.mpr d)]
      · rw [if_neg d, if_neg (fun v => d (e.mp v))])
    rw [this]
    have : sm (fun k => if f.has k = 0 then 0 else 1) 412 = sm (fun k => if f.has k = 0 then 0 else 1) 391 + sm (fun k => if f.has (391 + k) = 0 then 0 else 1) 21 := by
      rw [show (412 : Nat) = 391 + 21 from rfl, sm_cut]
    omega
  · by_cases d : f.sm = 1
    · have r := sm_rng (a := 0) (b := 0) (Nat.le_refl _) 391
      have := sm_le (f := fun p => if w.2 8 (pcN l id p) = neg1 then 0 else 1) (g := fun p => if 0 ≤ p ∧ p ≤ 0 then 1 else 0) (n := 391) (fun p hp => by
        by_cases e : p = 0
        · rw [if_pos (show 0 ≤ p ∧ p ≤ 0 by omega)]; split <;> omega
        · rw [if_pos (h.s1 d p (by omega) hp)]; exact Nat.zero_le _)
      omega
    · omega
