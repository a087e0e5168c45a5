/-! the tree as it is now -/
def NW (z : NSt) (T R : TRE) (tk : TKS) (PP : Nat → Nat) (ch : List Nat) : Prop := (WK z (BPL (zV z) (z.2 6)) R tk PP ch) ∧ (TOK (zV z) (z.2 6) T) ∧ (LED (zV z) (z.2 6) T)
theorem NW.wk {z : NSt} {T R : TRE} {tk : TKS} {PP : Nat → Nat} {ch : List Nat} (h9 : NW z T R tk PP ch) : WK z (BPL (zV z) (z.2 6)) R tk PP ch := h9.1
theorem NW.tok {z : NSt} {T R : TRE} {tk : TKS} {PP : Nat → Nat} {ch : List Nat} (h9 : NW z T R tk PP ch) : TOK (zV z) (z.2 6) T := h9.2.1
theorem NW.led {z : NSt} {T R : TRE} {tk : TKS} {PP : Nat → Nat} {ch : List Nat} (h9 : NW z T R tk PP ch) : LED (zV z) (z.2 6) T := h9.2.2
theorem NW.p0 {z : NSt} {T R : TRE} {tk : TKS} {PP : Nat → Nat} {ch : List Nat} (h : NW z T R tk PP ch) : z.2 6 0 = 0 := by
  by_cases q : z.2 6 0 = 0
  · exact q
  · have := (h.wk.nu 0 q).1
    omega
theorem NW.put {z x y : NSt} {T T' R : TRE} {tk : TKS} {PP : Nat → Nat} {ch : List Nat} {BP : Nat → Nat → Nat} {a id : Nat} (h : NW z T R tk PP ch) (hk : KW z x) (hw : WK x BP R tk PP ch) (e6 : x.2 6 = z.2 6) (hp : PN x a id 0 y) (hl : LG y) (ha : 13 ≤ a) (h1 : 1 ≤ id) (h2 : id ≤ 250) (hs : x.1 11 < 2 ^ 32) (ho : x.2 a 61 = id) (hT : ∀ i, i ≠ id → SAMT T T' i) (hT0 : T'.kd id = 1 ∨ T'.kd id = 2) (hI : IDK (zV y) (y.2 6) T' id) (hB : ∀ k, BP id k = BPL (zV y) (y.2 6) id k) (hB' : ∀ i, i ≠ id → BP i = BPL (zV z) (z.2 6) i) (hN : ∀ j, T.kd id = 1 → j ≤ 7 → 250 < NB (zV z) (z.2 6) id j → z.2 6 (NB (zV z) (z.2 6) id j) ≠ 0 → T'.kd id = 1 ∧ ∃ j', j' ≤ 7 ∧ NB (zV y) (y.2 6) id j' = NB (zV z) (z.2 6) id j) : NW y T' R tk PP (ch ++ [x.1 8]) := by
  have hky : KW z y := hk.trans hp.kw
  have h6 : y.2 6 = va_up (z.2 6) id (x.1 8) := by rw [hp.2.2.1, e6]
  have hW : ∀ n, z.2 6 n ≠ 0 → zV y (z.2 6 n) = zV z (z.2 6 n) := fun n q => (hky.1 _ (by rw [(h.wk.p1 q).1]; decide)).2
  have hP : ∀ i, i ≠ id → y.2 6 i = z.2 6 i := fun i q => by rw [h6, va_up_ne _ _ q]
  have hsame : ∀ i, i ≠ id → 1 ≤ i → i ≤ 250 → z.2 6 i ≠ 0 → SAME (zV z) (zV y) (z.2 6) (y.2 6) i := fun i q g1 g2 g3 => by
    have hi := h.tok.ids i g1 g2
    have hk' : T.kd i ≠ 0 := fun w => g3 (hi.pl.mpr w)
    refine ⟨hP i q, hW i g3, fun w j hj v => ?_⟩
    rw [(hi.kd hk').1] at w
    have h3 := (h.tok.rng i hk').2.2
    have hr := (hi.fil (by omega)).2.2.rng j hj v
    exact ⟨hP _ (by omega), hW _ hr.2.2.1⟩
  have hdw : ∀ i k, BPL (zV z) (z.2 6) i k ≠ 0 → zV y (BPL (zV z) (z.2 6) i k) = zV z (BPL (zV z) (z.2 6) i k) := fun i k q => (hky.1 _ (by rw [(h.wk.tr.rb h.wk.lg q).2.2.2.2]; decide)).2
  have hbp : ∀ i, i ≠ id → ∀ k, BPL (zV y) (y.2 6) i k = BPL (zV z) (z.2 6) i k := fun i q k => by
    by_cases c : z.2 6 i = 0 ∨ 250 < i
    · rw [BPL_0 c, BPL_0 (by rw [hP i q]; exact c)]
    · have c1 : i ≠ 0 := fun w => c (Or.inl (by rw [w]; exact h.p0))
      exact (hsame i q (by omega) (by omega) (fun w => c (Or.inl w))).bpl k
  have hBP : BP = BPL (zV y) (y.2 6) := by
    funext i k
    by_cases c : i = id
    · rw [c]; exact hB k
    · rw [hB' i c, hbp i c]
  have hwk : WK y BP R tk PP (ch ++ [x.1 8]) := hw.node ha hp hl h1 (by omega) (by omega) (by omega) (fun _ => ho) (fun q => by omega) hs
  rw [hBP] at hwk
  refine ⟨hwk, ⟨fun i q => ?_, fun i g1 g2 => ?_⟩, fun n g1 g2 => ?_⟩
  · by_cases c : i = id
    · rw [c]; exact ⟨h1, h2, hT0⟩
    · have := h.tok.rng i
      rw [(hT i c).1] at q ⊢
      exact this q
  · by_cases c : i = id
    · rw [c]; exact hI
    · exact (h.tok.ids i g1 g2).same g2 (hT i c) (hsame i c g1 g2) (fun q => by rw [hP i c]; exact q) (hdw i)
  · rw [hP n (by omega)] at g2
    obtain ⟨i, j, k1, k2, k3⟩ := h.led n g1 g2
    by_cases c : i = id
    · rw [c] at k1 k3
      obtain ⟨v1, j', v2, v3⟩ := hN j k1 k2 (by omega) (by rw [k3]; exact g2)
      exact ⟨id, j', v1, v2, by rw [v3, k3]⟩
    · have hi := h.tok.rng i (by omega)
      have g3 : z.2 6 i ≠ 0 := fun w => by
        have := (h.tok.ids i hi.1 hi.2.1).pl.mp w
        omega
      have hid := (h.tok.ids i hi.1 hi.2.1).kd (by omega)
      refine ⟨i, j, by rw [(hT i c).1]; exact k1, k2, ?_⟩
      rw [(hsame i c hi.1 hi.2.1 g3).nb (by rw [hid.1]; omega), k3]
/-! directories -/
theorem sm_if_up {I : Nat → Nat} {s v : Nat} (hs : s < 48) {J : Nat → Nat} (hJ : ∀ t, t < 48 → J (6 + t) = if t = s then v else I (6 + t)) : sm (fun t => if J (6 + t) = 0 then 0 else 1) 48 + (if I (6 + s) = 0 then 0 else 1) = sm (fun t => if I (6 + t) = 0 then 0 else 1) 48 + (if v = 0 then 0 else 1) := by
  have h := sm_up (f := fun t => if I (6 + t) = 0 then 0 else 1) (i := s) (v := if v = 0 then 0 else 1) (n := 48) hs
  have e : sm (fun t => if J (6 + t) = 0 then 0 else 1) 48 = sm (va_up (fun t => if I (6 + t) = 0 then 0 else 1) s (if v = 0 then 0 else 1)) 48 := sm_congr (fun t ht => by
    rw [hJ t ht]
    unfold va_up
    by_cases c : t = s
    · rw [if_pos c, if_pos c]
    · rw [if_neg c, if_neg c])
  rw [e]
  exact h
theorem DOK.del {W : Nat → Nat → Nat} {I J e : Nat → Nat} (h : DOK W I e) {s : Nat} (hs : s < 48) (hq : I (6 + s) ≠ 0) (hJ : ∀ t, t < 48 → J (6 + t) = if t = s then 0 else I (6 + t)) (hJ1 : J 1 + 1 = I 1) : DOK W J (va_up e (nmE W (I (6 + s) % 4096)) 0) := by
  have g : ∀ t, t < 48 → J (6 + t) ≠ 0 → t ≠ s ∧ J (6 + t) = I (6 + t) := fun t ht q => by
    rw [hJ t ht] at q ⊢
    by_cases c : t = s
    · rw [if_pos c] at q; exact absurd rfl q
    · exact ⟨c, if_neg c⟩
  refine ⟨fun t ht q => ?_, fun n hn => ?_, fun t t' ht ht' q q' e' => ?_, ?_⟩
  · obtain ⟨c, e1⟩ := g t ht q
    rw [e1] at q ⊢
    obtain ⟨a1, a2, a3, a4, a5, a6⟩ := h.slot t ht q
    refine ⟨a1, a2, ?_, a4, a5, a6⟩
    rw [va_up_ne]
    · exact a3
    · intro w
      exact c (h.dis t s ht hs q hq w)
  · by_cases c : n = nmE W (I (6 + s) % 4096)
    · rw [c, va_up_self] at hn; exact absurd rfl hn
    · rw [va_up_ne _ _ c] at hn
      obtain ⟨t, ht, q, e'⟩ := h.all n hn
      have ct : t ≠ s := fun w => c (by rw [← e', w])
      have e1 : J (6 + t) = I (6 + t) := by rw [hJ t ht, if_neg ct]
      exact ⟨t, ht, by rw [e1]; exact q, by rw [e1]; exact e'⟩
  · obtain ⟨-, e1⟩ := g t ht q
    obtain ⟨-, e2⟩ := g t' ht' q'
    rw [e1] at q e'
    rw [e2] at q' e'
    exact h.dis t t' ht ht' q q' e'
  · have := sm_if_up (v := 0) hs hJ
    rw [if_neg hq, if_pos rfl, ← h.siz] at this
    omega
theorem DOK.add {W W' : Nat → Nat → Nat} {I J e : Nat → Nat} (h : DOK W I e) {s w d n l id : Nat} (hs : s < 48) (hq : I (6 + s) = 0) (hJ : ∀ t, t < 48 → J (6 + t) = if t = s then w else I (6 + t)) (hJ1 : J 1 = I 1 + 1) (hw : ∀ t, t < 48 → I (6 + t) ≠ 0 → W' (I (6 + t) % 4096) = W (I (6 + t) % 4096)) (hd : w % 4096 = d) (hd0 : d ≠ 0) (hh : w / 4096 = hashN (fun i => W' d (2 + i))) (hn : nmE W' d = n) (hi : W' d 0 = id) (hi1 : 1 ≤ id) (hi2 : id ≤ 250) (hl : NL n (W' d 1)) (hen : e n = 0) : DOK W' J (va_up e n id) := by
  have h' := h.keep hw
  have w0 : w ≠ 0 := fun q => hd0 (by rw [← hd, q])
  refine ⟨fun t ht q => ?_, fun m hm => ?_, fun t t' ht ht' q q' e' => ?_, ?_⟩
  · by_cases c : t = s
    · rw [hJ t ht, if_pos c, hd]
      refine ⟨hd0, hh, ?_, by omega, by omega, by rw [hn]; exact hl⟩
      rw [hn, va_up_self, hi]
    · rw [hJ t ht, if_neg c] at q ⊢
      obtain ⟨a1, a2, a3, a4, a5, a6⟩ := h'.slot t ht q
      refine ⟨a1, a2, ?_, a4, a5, a6⟩
      rw [va_up_ne]
      · exact a3
      · intro v
        rw [v, hen] at a3
        exact a4 a3.symm
  · by_cases c : m = n
    · refine ⟨s, hs, ?_, ?_⟩
      · rw [hJ s hs, if_pos rfl]; exact w0
      · rw [hJ s hs, if_pos rfl, hd, hn, c]
    · rw [va_up_ne _ _ c] at hm
      obtain ⟨t, ht, q, e'⟩ := h'.all m hm
      have ct : t ≠ s := fun v => q (by rw [v]; exact hq)
      exact ⟨t, ht, by rw [hJ t ht, if_neg ct]; exact q, by rw [hJ t ht, if_neg ct]; exact e'⟩
  · have key : ∀ t, t < 48 → t ≠ s → I (6 + t) ≠ 0 → nmE W' (I (6 + t) % 4096) ≠ n := fun t ht ct q v => by
      have a := (h'.slot t ht q)
      rw [v, hen] at a
      exact a.2.2.2.1 a.2.2.1.symm
    by_cases c : t = s
    · by_cases c' : t' = s
      · rw [c, c']
      · rw [hJ t ht, if_pos c, hd, hn, hJ t' ht', if_neg c'] at e'
        rw [hJ t' ht', if_neg c'] at q'
        exact absurd e'.symm (key t' ht' c' q')
    · by_cases c' : t' = s
      · rw [hJ t' ht', if_pos c', hd, hn, hJ t ht, if_neg c] at e'
        rw [hJ t ht, if_neg c] at q
        exact absurd e' (key t ht c q)
      · rw [hJ t ht, if_neg c] at q e'
        rw [hJ t' ht', if_neg c'] at q' e'
        exact h'.dis t t' ht ht' q q' e'
  · have := sm_if_up (v := w) hs hJ
    rw [if_pos hq, if_neg w0, ← h.siz] at this
    omega
theorem DOK.cong {W : Nat → Nat → Nat} {I J e : Nat → Nat} (h : DOK W I e) (hJ : ∀ i, i < 58 → J i = I i) : DOK W J e := by
  have g : ∀ s, s < 48 → J (6 + s) = I (6 + s) := fun s hs => hJ _ (by omega)
  refine ⟨fun s hs q => ?_, fun n hn => ?_, fun s s' hs hs' q q' e' => ?_, ?_⟩
  · rw [g s hs] at q ⊢; exact h.slot s hs q
  · obtain ⟨s, hs, q, e'⟩ := h.all n hn
    exact ⟨s, hs, by rw [g s hs]; exact q, by rw [g s hs]; exact e'⟩
  · rw [g s hs] at q e'
    rw [g s' hs'] at q' e'
    exact h.dis s s' hs hs' q q' e'
  · rw [hJ 1 (by decide), h.siz]
    exact sm_congr (fun s hs => by rw [g s hs])
theorem WK.setR {z : NSt} {BP : Nat → Nat → Nat} {T : TRE} {tk : TKS} {PP : Nat → Nat} {ch : List Nat} (h : WK z BP T tk PP ch) {a : Nat} {F : Nat → Nat} (ha : 13 ≤ a) (hF : ∀ i, F i < 2 ^ 32) : WK (zR z a F) BP T tk PP ch :=
  h.mem (fun k _ _ => rfl) (fun b g1 g2 _ _ => by rw [zR2, if_neg (by omega)]) (fun n _ => Or.inl (by rw [zR2, if_neg (by omega)])) (fun b g1 g2 i => by
    rw [zR2]
    split
    · exact hF i
    · exact h.wd b g1 g2 i)
theorem WK.setA {z : NSt} {BP : Nat → Nat → Nat} {T : TRE} {tk : TKS} {PP : Nat → Nat} {ch : List Nat} (h : WK z BP T tk PP ch) {a i v : Nat} (ha : 13 ≤ a) (hv : v < 2 ^ 32) : WK (zA z a i v) BP T tk PP ch :=
  h.setR ha (fun j => by
    unfold va_up
    split
    · exact hv
    · exact h.wd a (by omega) (by omega) j)
theorem WK.setI {z : NSt} {BP : Nat → Nat → Nat} {T : TRE} {tk : TKS} {PP : Nat → Nat} {ch : List Nat} (h : WK z BP T tk PP ch) {k v : Nat} (hk : 12 ≤ k) (hk2 : k ≠ 16) : WK (zI z k v) BP T tk PP ch :=
  h.mem (fun j g1 g2 => by rw [zI1, if_neg (by omega)]) (fun b _ _ _ _ => rfl) (fun n _ => Or.inl rfl) (fun b g1 g2 i => h.wd b g1 g2 i)
theorem WK.stir {z : NSt} {BP : Nat → Nat → Nat} {T : TRE} {tk : TKS} {PP : Nat → Nat} {ch : List Nat} (h : WK z BP T tk PP ch) (n : Nat) : WK (stirZ n z) BP T tk PP ch := by
  unfold stirZ
  split
  · refine h.mem (fun k _ _ => rfl) (fun b g1 g2 g3 g4 => by rw [zA2, if_neg g4]) (fun n _ => Or.inl (by rw [zA2, if_neg (by decide)])) (fun b g1 g2 i => ?_)
    rw [zA2]
    split
    · unfold va_up
      split
      · decide
      · exact h.wd 8 (by decide) (by decide) i
    · exact h.wd b g1 g2 i
  · exact h
theorem NW.frame {z y : NSt} {T R : TRE} {tk : TKS} {PP : Nat → Nat} {ch : List Nat} (h : NW z T R tk PP ch) (e4 : y.2 4 = z.2 4) (e6 : y.2 6 = z.2 6) (hw : WK y (BPL (zV z) (z.2 6)) R tk PP ch) : NW y T R tk PP ch := by
  have e : zV y = zV z := funext (zV_congr e4)
  refine ⟨?_, ?_, ?_⟩
  · rw [e, e6]; exact hw
  · rw [e, e6]; exact h.tok
  · rw [e, e6]; exact h.led
theorem NW.dirput {z x y : NSt} {T R : TRE} {tk : TKS} {PP : Nat → Nat} {ch : List Nat} {BP : Nat → Nat → Nat} {d : Nat} {e' : Nat → Nat} (h : NW z T R tk PP ch) (hk : KW z x) (hw : WK x BP R tk PP ch) (e6 : x.2 6 = z.2 6) (hp : PN x 17 d 0 y) (hl : LG y) (hd : T.kd d = 2) (hs : x.1 11 < 2 ^ 32) (j0 : x.2 17 0 = 2) (j2 : x.2 17 2 = T.par d) (j3 : x.2 17 3 = 0) (j58 : x.2 17 58 = 0) (j61 : x.2 17 61 = d) (hD : DOK (zV y) (x.2 17) e') (hB : ∀ k, BP d k = if k < 48 then x.2 17 (6 + k) % 4096 else 0) (hB' : ∀ i, i ≠ d → BP i = BPL (zV z) (z.2 6) i) : NW y (T.wEnt (va_up T.ent d e')) R tk PP (ch ++ [x.1 8]) := by
  obtain ⟨g1, g2, -⟩ := h.tok.rng d (by omega)
  have h69 := hp.2.2.2.2.2.2.2.2.2.2.1
  have P : y.2 6 d = x.1 8 := by rw [hp.2.2.1, va_up_self]
  have V : zV y (y.2 6 d) = cutW (ndW (x.2 17) d 0 (x.1 11) (y.1 8)) := by rw [P, hp.V, if_pos rfl]
  have Vlo : ∀ i, i < 59 → zV y (y.2 6 d) i = x.2 17 i := fun i hi => by rw [V, cutW_lo (by omega), ndW_lo _ _ _ _ _ hi]
  have V61 : zV y (y.2 6 d) 61 = d := by rw [V]; exact j61
  refine h.put (T' := (T.wEnt (va_up T.ent d e'))) hk hw e6 hp hl (by decide) g1 g2 hs j61 (fun i hi => ⟨rfl, rfl, rfl, va_up_ne _ _ hi, rfl⟩) (Or.inr hd) ⟨⟨fun q => ?_, fun q => ?_⟩, fun _ => ⟨?_, ?_, V61⟩, fun q => ?_, fun _ => ⟨?_, ?_, ?_⟩, fun q => absurd hd q⟩ (fun k => ?_) hB' (fun j q => ?_)
  · omega
  · have q : T.kd d = 0 := q
    omega
  · rw [Vlo 0 (by decide), j0]; exact hd.symm
  · rw [Vlo 58 (by decide), j58]
  · have q : T.kd d = 1 := q
    omega
  · show DOK (zV y) (zV y (y.2 6 d)) (va_up T.ent d e' d)
    rw [va_up_self]
    exact hD.cong (fun i hi => Vlo i (by omega))
  · rw [Vlo 2 (by decide), j2]
    rfl
  · rw [Vlo 3 (by decide), j3]
  · rw [hB]
    by_cases c : k < 48
    · rw [BPL_d (by omega) g2 (by rw [Vlo 0 (by decide), j0]) c, Vlo _ (by omega), if_pos c]
    · rw [if_neg c]
      unfold BPL
      rw [if_neg (by omega), if_pos (by rw [Vlo 0 (by decide), j0]), if_neg c]
  · omega
/-- what a call leaves alone -/
def FR (z y : NSt) : Prop := (∀ k, k ≠ 7 → k ≠ 8 → k ≠ 9 → k ≠ 10 → k ≠ 12 → k ≠ 13 → k ≠ 14 → k ≠ 15 → y.1 k = z.1 k) ∧ ∀ a, a ≤ 3 → y.2 a = z.2 a
theorem FR.rf (z : NSt) : FR z z := ⟨fun _ _ _ _ _ _ _ _ _ => rfl, fun _ _ => rfl⟩
theorem FR.trans {x y z : NSt} (h : FR x y) (g : FR y z) : FR x z := ⟨fun k a b c d e f i j => by rw [g.1 k a b c d e f i j, h.1 k a b c d e f i j], fun a ha => by rw [g.2 a ha, h.2 a ha]⟩
theorem PN.fr {z y : NSt} {a n k : Nat} (h : PN z a n k y) (ha : 13 ≤ a) : FR z y ∧ y.2 8 = z.2 8 :=
  ⟨⟨fun j a b _ c _ _ _ _ => h.2.2.2.2.2.2.1 j a b c, fun c hc => h.2.2.2.2.2.1 c (by omega) (by omega) (by omega) (by omega) (by omega) (by omega) (by omega) (by omega)⟩, h.2.2.2.2.2.1 8 (by decide) (by decide) (by decide) (by decide) (by decide) (by decide) (by decide) (by omega)⟩
theorem PD.fr {z y : NSt} {a : Nat} (h : PD z a y) : FR z y ∧ y.2 8 = z.2 8 :=
  ⟨⟨fun j a _ b c _ _ _ _ => h.2.2.2.2.1 j a b c, fun c hc => h.2.2.2.1 c (by omega) (by omega) (by omega) (by omega) (by omega)⟩, h.2.2.2.1 8 (by decide) (by decide) (by decide) (by decide) (by decide)⟩
theorem PN.f7 {z y : NSt} {a n k : Nat} (h : PN z a n k y) (ha : 13 ≤ a) : y.2 7 = z.2 7 := h.2.2.2.2.2.1 7 (by decide) (by decide) (by decide) (by decide) (by decide) (by decide) (by decide) (by omega)
theorem PD.f7 {z y : NSt} {a : Nat} (h : PD z a y) : y.2 7 = z.2 7 := h.2.2.2.1 7 (by decide) (by decide) (by decide) (by decide) (by decide)
/-- a block read into memory -/
def ldZ (z : NSt) (a b : Nat) : NSt := zR z a (va_cpy (z.2 4) (z.2 a) (64 * b) 0 64)
theorem ld_a {z : NSt} {a b i : Nat} (hi : i < 64) : (ldZ z a b).2 a i = zW z b i := by
  unfold ldZ
  rw [zR2, if_pos rfl]
  unfold va_cpy zW
  rw [if_pos (by omega), Nat.sub_zero]
theorem ld_b {z : NSt} {a b c : Nat} (h : c ≠ a) : (ldZ z a b).2 c = z.2 c := if_neg h
theorem WK.load {z : NSt} {BP : Nat → Nat → Nat} {T : TRE} {tk : TKS} {PP : Nat → Nat} {ch : List Nat} (h : WK z BP T tk PP ch) {a : Nat} (b : Nat) (ha : 13 ≤ a) : WK (ldZ z a b) BP T tk PP ch :=
  h.setR ha (fun i => by
    unfold va_cpy
    split
    · exact h.wd 4 (by decide) (by decide) _
    · exact h.wd a (by omega) (by omega) _)
theorem WK.pb {z : NSt} {BP : Nat → Nat → Nat} {T : TRE} {tk : TKS} {PP : Nat → Nat} {ch : List Nat} (h : WK z BP T tk PP ch) : PB z := fun n => by
  rcases h.tr.pb h.lg n with q | ⟨-, -, q, -⟩
  · omega
  · exact q
theorem NW.wI {z : NSt} {T R : TRE} {tk : TKS} {PP : Nat → Nat} {ch : List Nat} (h : NW z T R tk PP ch) {id i : Nat} (hk : T.kd id ≠ 0) (hi : i < 64) : wdI z id i = zV z (z.2 6 id) i := by
  obtain ⟨g1, g2, -⟩ := h.tok.rng id hk
  have hp : z.2 6 id ≠ 0 := fun q => hk ((h.tok.ids id g1 g2).pl.mp q)
  unfold wdI
  rw [if_pos ⟨g1, g2, hp⟩, zV_W hi]
theorem NW.wd0 {z : NSt} {T R : TRE} {tk : TKS} {PP : Nat → Nat} {ch : List Nat} (h : NW z T R tk PP ch) {id i : Nat} (hk : T.kd id = 0) : wdI z id i = 0 := by
  unfold wdI
  rw [if_neg]
  rintro ⟨g1, g2, g3⟩
  exact g3 ((h.tok.ids id g1 g2).pl.mpr hk)
theorem NW.kind {z : NSt} {T R : TRE} {tk : TKS} {PP : Nat → Nat} {ch : List Nat} (h : NW z T R tk PP ch) (id : Nat) : wdI z id 0 = T.kd id := by
  by_cases c : T.kd id = 0
  · rw [h.wd0 c, c]
  · obtain ⟨g1, g2, -⟩ := h.tok.rng id c
    rw [h.wI c (by decide), ((h.tok.ids id g1 g2).kd c).1]
