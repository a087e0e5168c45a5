/-! what the class keeps, against the state that it stands for -/
theorem idN_w {n : Nat} (hn : n < 2 ^ 32) : idN (nI n) = if 1 ≤ n ∧ n ≤ 250 then n else 0 := by
  unfold idN
  have e1 : (1 : Int32) ≤ nI n ↔ sgn 1 ≤ sgn n := nI_leS (a := 1) (by decide) hn
  have e2 : nI n ≤ (250 : Int32) ↔ sgn n ≤ sgn 250 := nI_leS (b := 250) hn (by decide)
  rw [sgn_lo (n := 1) (by decide)] at e1
  rw [sgn_lo (n := 250) (by decide)] at e2
  by_cases c : n < 2 ^ 31
  · rw [sgn_lo c] at e1 e2
    by_cases d : 1 ≤ n ∧ n ≤ 250
    · rw [if_pos d, if_pos ⟨e1.mpr (by omega), e2.mpr (by omega)⟩, nI_clamp c]
    · rw [if_neg d, if_neg (fun w => d ⟨by have := e1.mp w.1; omega, by have := e2.mp w.2; omega⟩)]
  · rw [sgn_hi c] at e1 e2
    rw [if_neg (fun w => by have := e1.mp w.1; omega), if_neg (by omega)]
theorem wdI_n {z : NSt} {n i : Nat} : wdI z (if 1 ≤ n ∧ n ≤ 250 then n else 0) i = wdI z n i := by
  by_cases c : 1 ≤ n ∧ n ≤ 250
  · rw [if_pos c]
  · rw [if_neg c]
    unfold wdI
    rw [if_neg (by omega), if_neg (by omega)]
theorem wordOf_n (FU : Nat) {z : NSt} (hP : PB z) {n i : Nat} (hn : n < 2 ^ 32) (hi : i < 64) : Tre_wordOf FU (nI n) (nI i) (up z) = some (nI (wdI z n i)) := by
  rw [Tre_wordOf_x FU hP (nI n) hi, idN_w hn, wdI_n]
theorem NW.kd0 {z : NSt} {T R : TRE} {tk : TKS} {PP : Nat → Nat} {ch : List Nat} (h : NW z T R tk PP ch) (n : Nat) : wdI z n 0 = T.kd n := by
  by_cases c : T.kd n = 0
  · rw [c]
    unfold wdI
    refine if_neg (fun w => w.2.2 ?_)
    exact (h.tok.ids n w.1 w.2.1).pl.mpr c
  · obtain ⟨g1, g2, -⟩ := h.tok.rng n c
    rw [h.wI c (by decide), ((h.tok.ids n g1 g2).kd c).1]
theorem NW.kindOf {z : NSt} {T R : TRE} {tk : TKS} {PP : Nat → Nat} {ch : List Nat} (h : NW z T R tk PP ch) (FU : Nat) {n : Nat} (hn : n < 2 ^ 32) : Tre_kindOf FU (nI n) (up z) = some (nI (T.kd n)) := by
  rw [Tre_kindOf_x FU h.wk.pb, idN_w hn, wdI_n, h.kd0]
theorem NW.kle {z : NSt} {T R : TRE} {tk : TKS} {PP : Nat → Nat} {ch : List Nat} (h : NW z T R tk PP ch) (n : Nat) : T.kd n ≤ 2 := by
  by_cases c : T.kd n = 0
  · omega
  · have := (h.tok.rng n c).2.2
    omega
theorem NL_lt {n l : Nat} (h : NL n l) : n < NNM := by
  obtain ⟨-, -, f, rfl, hf⟩ := h
  rw [NNM_eq]
  exact hn_bnd (fun j hj => (hf j hj).1)
theorem dir_nmc {W : Nat → Nat → Nat} {I e : Nat → Nat} (h : DOK W I e) : I 1 = nmc e := by
  have := cnt_inj (A := 48) (B := NNM) (f := fun s => nmE W (I (6 + s) % 4096)) (p := fun s => I (6 + s) ≠ 0) (q := fun n => e n ≠ 0) (fun s hs q => by
    obtain ⟨-, -, a3, a4, -, a6⟩ := h.slot s hs q
    exact ⟨NL_lt a6, by rw [a3]; exact a4⟩) (fun n _ q => h.all n q) (fun s s' hs hs' q q' w => h.dis s s' hs hs' q q' w)
  rw [h.siz]
  unfold nmc
  rw [sm_congr (g := fun s => if I (6 + s) ≠ 0 then 1 else 0) (fun s _ => if01), this]
  exact sm_congr (fun n _ => if01.symm)
theorem NW.siz {z : NSt} {T R : TRE} {tk : TKS} {PP : Nat → Nat} {ch : List Nat} (h : NW z T R tk PP ch) {d : Nat} (hd : T.kd d = 2) : zV z (z.2 6 d) 1 = nmc (T.ent d) ∧ wdI z d 1 = nmc (T.ent d) := by
  obtain ⟨g1, g2, -⟩ := h.tok.rng d (by omega)
  have := dir_nmc ((h.tok.ids d g1 g2).dir hd).1
  exact ⟨this, by rw [h.wI (by omega) (by decide), this]⟩
theorem nmc_le {W : Nat → Nat → Nat} {I e : Nat → Nat} (h : DOK W I e) : nmc e ≤ 48 := by
  rw [← dir_nmc h, h.siz]
  have := sm_bnd (f := fun s => if I (6 + s) = 0 then 0 else 1) (n := 48) (c := 1) (fun s _ => by show (if I (6 + s) = 0 then 0 else 1) ≤ 1; split <;> omega)
  omega
theorem nmc_0 {e : Nat → Nat} (h : ∀ n, e n = 0) : nmc e = 0 := sm_zero (fun n _ => by rw [h n, if_pos rfl])
theorem FOK.cnt {W : Nat → Nat → Nat} {I bp : Nat → Nat} {f : FV} (h : FOK W I bp f) : I 4 = sm (fun k => if f.has k = 0 then 0 else 1) 412 := by
  rw [h.there]
  refine sm_congr (fun k hk => ?_)
  rw [h.has k hk]
  by_cases c : bp k = 0
  · rw [if_pos c, if_pos rfl]
  · rw [if_neg c, if_neg (by decide)]
theorem NW.bl {z : NSt} {T R : TRE} {tk : TKS} {PP : Nat → Nat} {ch : List Nat} (h : NW z T R tk PP ch) (id : Nat) : blI z id = blT T id := by
  unfold blI blT
  rw [h.kd0]
  by_cases c2 : T.kd id = 2
  · rw [if_pos c2, if_pos c2, (h.siz c2).2]
  · rw [if_neg c2, if_neg c2]
    by_cases c0 : T.kd id = 0
    · rw [if_pos c0, if_pos c0]
    · rw [if_neg c0, if_neg c0]
      obtain ⟨g1, g2, g3⟩ := h.tok.rng id c0
      obtain ⟨f1, -, -⟩ := (h.tok.ids id g1 g2).fil (by omega)
      unfold blF
      rw [h.wI c0 (by decide), h.wI c0 (by decide), h.wI c0 (by decide), f1.sml, f1.cnt, f1.sz]
theorem NW.inU {z : NSt} {T R : TRE} {tk : TKS} {PP : Nat → Nat} {ch : List Nat} (h : NW z T R tk PP ch) : inUseN z = inT T := by
  unfold inUseN inT
  exact sm_congr (fun j _ => h.bl _)
/-- blocks that are there -/
theorem ndH_1 {h : Nat → Nat} {j i : Nat} (hi : i < 56) (hh : h (20 + 56 * j + i) ≠ 0) : ndH h j = 1 := by
  unfold ndH
  refine if_neg (fun w => ?_)
  have := sm_z w hi
  rw [if_neg hh] at this
  omega
theorem nb_au {z : NSt} {T R : TRE} {tk : TKS} {PP : Nat → Nat} {ch : List Nat} (h : NW z T R tk PP ch) {id : Nat} (hk : T.kd id = 1) : sm (fun j => if T.kd id = 1 ∧ NB (zV z) (z.2 6) id j ≠ 0 then 1 else 0) 8 ≤ sm (ndH (T.fil id).has) 7 + (if sm (fun j => ndH (T.fil id).has (2 + j)) 5 = 0 then 0 else 1) := by
  obtain ⟨g1, g2, -⟩ := h.tok.rng id (by omega)
  obtain ⟨f1, -, f3⟩ := (h.tok.ids id g1 g2).fil hk
  have hnd : ∀ j, 1 ≤ j → j ≤ 7 → NB (zV z) (z.2 6) id j ≠ 0 → ndH (T.fil id).has (j - 1) = 1 := fun j j1 j2 q => by
    obtain ⟨i, hi, hw⟩ := f3.ne j j1 j2 q
    refine ndH_1 hi ?_
    rw [f1.has _ (by omega)]
    have e : bpF (zV z) (z.2 6) id (20 + 56 * (j - 1) + i) = zV z (z.2 6 (NB (zV z) (z.2 6) id j)) i := by
      unfold bpF
      rw [if_neg (by omega), show 1 + (20 + 56 * (j - 1) + i - 20) / 56 = j by omega, if_neg q, show (20 + 56 * (j - 1) + i - 20) % 56 = i by omega]
    rw [e, if_neg hw]
    decide
  rw [show (8 : Nat) = 1 + 7 from rfl, sm_cut]
  have a1 : sm (fun i => if T.kd id = 1 ∧ NB (zV z) (z.2 6) id (1 + i) ≠ 0 then 1 else 0) 7 ≤ sm (ndH (T.fil id).has) 7 := sm_le (fun i hi => by
    by_cases c : T.kd id = 1 ∧ NB (zV z) (z.2 6) id (1 + i) ≠ 0
    · rw [if_pos c]
      have := hnd (1 + i) (by omega) (by omega) c.2
      rw [show 1 + i - 1 = i by omega] at this
      omega
    · rw [if_neg c]; exact Nat.zero_le _)
  have a0 : sm (fun j => if T.kd id = 1 ∧ NB (zV z) (z.2 6) id j ≠ 0 then 1 else 0) 1 ≤ (if sm (fun j => ndH (T.fil id).has (2 + j)) 5 = 0 then 0 else 1) := by
    show 0 + (if T.kd id = 1 ∧ NB (zV z) (z.2 6) id 0 ≠ 0 then 1 else 0) ≤ _
    by_cases c : T.kd id = 1 ∧ NB (zV z) (z.2 6) id 0 ≠ 0
    · rw [if_pos c]
      obtain ⟨-, i, hi, hw⟩ := f3.ixz c.2
      have e : NB (zV z) (z.2 6) id (3 + i) = zV z (z.2 6 (NB (zV z) (z.2 6) id 0)) i := by
        have hc := c.2
        rw [NB0] at hc ⊢
        unfold NB
        rw [if_neg (by omega), if_neg (by omega), if_neg hc, show 3 + i - 3 = i by omega]
      have h1 := hnd (3 + i) (by omega) (by omega) (by rw [e]; exact hw)
      rw [if_neg (fun w => ?_)]
      · exact Nat.le_refl _
      · have := sm_z w (i := i) hi
        rw [show 3 + i - 1 = 2 + i by omega] at h1
        omega
    · rw [if_neg c]; exact Nat.zero_le _
  omega
theorem au_id {z : NSt} {T R : TRE} {tk : TKS} {PP : Nat → Nat} {ch : List Nat} (h : NW z T R tk PP ch) {id : Nat} (h1 : 1 ≤ id) (h2 : id ≤ 250) : (if z.2 6 id ≠ 0 then 1 else 0) + sm (fun j => if T.kd id = 1 ∧ NB (zV z) (z.2 6) id j ≠ 0 then 1 else 0) 8 + sm (fun k => if BPL (zV z) (z.2 6) id k ≠ 0 then 1 else 0) 412 ≤ auT T id := by
  have hi := h.tok.ids id h1 h2
  have hb := bl_id h h1 h2
  rw [h.bl] at hb
  unfold auT
  unfold blT at hb
  by_cases c2 : T.kd id = 2
  · rw [if_pos c2] at hb ⊢
    exact hb
  · rw [if_neg c2] at hb ⊢
    by_cases c0 : T.kd id = 0
    · rw [if_pos c0] at hb ⊢
      exact hb
    · rw [if_neg c0]
      obtain ⟨g1, g2, g3⟩ := h.tok.rng id c0
      have k1 : T.kd id = 1 := by omega
      obtain ⟨f1, -, -⟩ := hi.fil k1
      have hp : z.2 6 id ≠ 0 := fun q => c0 (hi.pl.mp q)
      have hn := nb_au h k1
      have e2 : sm (fun k => if BPL (zV z) (z.2 6) id k ≠ 0 then 1 else 0) 412 = sm (fun k => if (T.fil id).has k = 0 then 0 else 1) 412 := by
        rw [← f1.cnt, f1.there]
        exact sm_congr (fun k hk => by
          rw [BPL_f hp h2 (by rw [(hi.kd c0).1, k1]; decide) hk]
          exact if01.symm)
      rw [e2, if_pos hp]
      unfold auF
      omega
theorem NW_au {z : NSt} {T R : TRE} {tk : TKS} {PP : Nat → Nat} {ch : List Nat} (h : NW z T R tk PP ch) : un z ≤ sm (fun j => auT T (1 + j)) 250 :=
  phys_g h (auT T) (fun _ h1 h2 => au_id h h1 h2)
/-- trees whose names fit their ids -/
def TWF (T : TRE) : Prop := (∀ d n, T.kd d ≠ 2 → T.ent d n = 0) ∧ (∀ d n, T.ent d n ≠ 0 → ∃ l, NL n l) ∧ (∀ d n, T.ent d n ≠ 0 → T.kd (T.ent d n) ≠ 0 ∧ T.ent d n ≠ 1) ∧ (∀ f, T.kd f = 1 → T.lk f = lkc T f) ∧ (∀ x, T.kd x = 2 → x ≠ 1 → lkc T x = 1) ∧ (∀ d n, T.kd (T.ent d n) = 2 → T.par (T.ent d n) = d) ∧ (ACY T)
theorem TWF.noe {T : TRE} (h9 : TWF T) : ∀ d n, T.kd d ≠ 2 → T.ent d n = 0 := h9.1
theorem TWF.nl {T : TRE} (h9 : TWF T) : ∀ d n, T.ent d n ≠ 0 → ∃ l, NL n l := h9.2.1
theorem TWF.tg {T : TRE} (h9 : TWF T) : ∀ d n, T.ent d n ≠ 0 → T.kd (T.ent d n) ≠ 0 ∧ T.ent d n ≠ 1 := h9.2.2.1
theorem TWF.lk {T : TRE} (h9 : TWF T) : ∀ f, T.kd f = 1 → T.lk f = lkc T f := h9.2.2.2.1
theorem TWF.dl {T : TRE} (h9 : TWF T) : ∀ x, T.kd x = 2 → x ≠ 1 → lkc T x = 1 := h9.2.2.2.2.1
theorem TWF.pr {T : TRE} (h9 : TWF T) : ∀ d n, T.kd (T.ent d n) = 2 → T.par (T.ent d n) = d := h9.2.2.2.2.2.1
theorem TWF.ac {T : TRE} (h9 : TWF T) : ACY T := h9.2.2.2.2.2.2
def AI (A : AB) (s : Nat) : Prop := (TWF A.T) ∧ (TWF A.O) ∧ (∀ i, A.S i = true → A.O.kd i = 1) ∧ (∀ f, A.T.kd f = 1 → A.rn f = false → A.O.kd f = 1 ∧ A.O.lk f = A.T.lk f) ∧ (A.rm ≤ 1664) ∧ (A.us + A.fr ≤ A.rm ∨ (A.fr = 0 ∧ s = 0)) ∧ (∃ m : Nat → Nat, (∀ i, auT A.T i ≤ m i ∧ auT A.O i ≤ m i ∧ auT A.R i ≤ m i) ∧ sm (fun j => m (1 + j)) 250 + s ≤ A.us + A.fr ∧ sm (fun j => m (1 + j)) 250 + s ≤ A.rm)
theorem AI.tw {A : AB} {s : Nat} (h9 : AI A s) : TWF A.T := h9.1
theorem AI.ow {A : AB} {s : Nat} (h9 : AI A s) : TWF A.O := h9.2.1
theorem AI.sk {A : AB} {s : Nat} (h9 : AI A s) : ∀ i, A.S i = true → A.O.kd i = 1 := h9.2.2.1
theorem AI.fk {A : AB} {s : Nat} (h9 : AI A s) : ∀ f, A.T.kd f = 1 → A.rn f = false → A.O.kd f = 1 ∧ A.O.lk f = A.T.lk f := h9.2.2.2.1
theorem AI.rb {A : AB} {s : Nat} (h9 : AI A s) : A.rm ≤ 1664 := h9.2.2.2.2.1
theorem AI.ft {A : AB} {s : Nat} (h9 : AI A s) : A.us + A.fr ≤ A.rm ∨ (A.fr = 0 ∧ s = 0) := h9.2.2.2.2.2.1
theorem AI.mx {A : AB} {s : Nat} (h9 : AI A s) : ∃ m : Nat → Nat, (∀ i, auT A.T i ≤ m i ∧ auT A.O i ≤ m i ∧ auT A.R i ≤ m i) ∧ sm (fun j => m (1 + j)) 250 + s ≤ A.us + A.fr ∧ sm (fun j => m (1 + j)) 250 + s ≤ A.rm := h9.2.2.2.2.2.2
def FIN (z : NSt) (A : AB) (s : Nat) (PP : Nat → Nat) (ch : List Nat) : Prop := (NW z A.T A.R (A.tk, A.S) PP ch) ∧ (∀ n, 1 ≤ n → n ≤ 250 → (PP n = 0 ↔ A.O.kd n = 0)) ∧ (∀ f, A.T.kd f = 1 → z.2 8 f = if A.rn f = true then 1 else 0) ∧ (z.1 16 = A.rm) ∧ (z.1 17 = A.us) ∧ (z.1 18 = A.fr) ∧ (z.1 19 = A.tk) ∧ (A.rm - A.us - A.fr + 162 + s ≤ Uz z) ∧ (KC z + s ≤ A.us + A.fr ∧ KC z + s ≤ A.rm) ∧ (z.1 11 ≤ 10001 * A.tk) ∧ (A.rm + 384 ≤ 16 * z.1 6) ∧ (A.us < 2 ^ 28)
theorem FIN.nw {z : NSt} {A : AB} {s : Nat} {PP : Nat → Nat} {ch : List Nat} (h9 : FIN z A s PP ch) : NW z A.T A.R (A.tk, A.S) PP ch := h9.1
theorem FIN.pi {z : NSt} {A : AB} {s : Nat} {PP : Nat → Nat} {ch : List Nat} (h9 : FIN z A s PP ch) : ∀ n, 1 ≤ n → n ≤ 250 → (PP n = 0 ↔ A.O.kd n = 0) := h9.2.1
theorem FIN.st {z : NSt} {A : AB} {s : Nat} {PP : Nat → Nat} {ch : List Nat} (h9 : FIN z A s PP ch) : ∀ f, A.T.kd f = 1 → z.2 8 f = if A.rn f = true then 1 else 0 := h9.2.2.1
theorem FIN.s16 {z : NSt} {A : AB} {s : Nat} {PP : Nat → Nat} {ch : List Nat} (h9 : FIN z A s PP ch) : z.1 16 = A.rm := h9.2.2.2.1
theorem FIN.s17 {z : NSt} {A : AB} {s : Nat} {PP : Nat → Nat} {ch : List Nat} (h9 : FIN z A s PP ch) : z.1 17 = A.us := h9.2.2.2.2.1
theorem FIN.s18 {z : NSt} {A : AB} {s : Nat} {PP : Nat → Nat} {ch : List Nat} (h9 : FIN z A s PP ch) : z.1 18 = A.fr := h9.2.2.2.2.2.1
theorem FIN.s19 {z : NSt} {A : AB} {s : Nat} {PP : Nat → Nat} {ch : List Nat} (h9 : FIN z A s PP ch) : z.1 19 = A.tk := h9.2.2.2.2.2.2.1
theorem FIN.uz {z : NSt} {A : AB} {s : Nat} {PP : Nat → Nat} {ch : List Nat} (h9 : FIN z A s PP ch) : A.rm - A.us - A.fr + 162 + s ≤ Uz z := h9.2.2.2.2.2.2.2.1
theorem FIN.kc {z : NSt} {A : AB} {s : Nat} {PP : Nat → Nat} {ch : List Nat} (h9 : FIN z A s PP ch) : KC z + s ≤ A.us + A.fr ∧ KC z + s ≤ A.rm := h9.2.2.2.2.2.2.2.2.1
theorem FIN.se {z : NSt} {A : AB} {s : Nat} {PP : Nat → Nat} {ch : List Nat} (h9 : FIN z A s PP ch) : z.1 11 ≤ 10001 * A.tk := h9.2.2.2.2.2.2.2.2.2.1
theorem FIN.rs {z : NSt} {A : AB} {s : Nat} {PP : Nat → Nat} {ch : List Nat} (h9 : FIN z A s PP ch) : A.rm + 384 ≤ 16 * z.1 6 := h9.2.2.2.2.2.2.2.2.2.2.1
theorem FIN.u28 {z : NSt} {A : AB} {s : Nat} {PP : Nat → Nat} {ch : List Nat} (h9 : FIN z A s PP ch) : A.us < 2 ^ 28 := h9.2.2.2.2.2.2.2.2.2.2.2
def FIO (z : NSt) (A : AB) (x : NSt) (PP : Nat → Nat) (ch : List Nat) : Prop := (OFF z x A.T A.R (A.tk, A.S) PP ch) ∧ (x.1 11 ≤ 10001 * A.tk) ∧ (A.rm + 384 ≤ 16 * x.1 6) ∧ (9 ≤ x.1 7) ∧ (x.1 16 = A.rm)
theorem FIO.off {z : NSt} {A : AB} {x : NSt} {PP : Nat → Nat} {ch : List Nat} (h9 : FIO z A x PP ch) : OFF z x A.T A.R (A.tk, A.S) PP ch := h9.1
theorem FIO.se {z : NSt} {A : AB} {x : NSt} {PP : Nat → Nat} {ch : List Nat} (h9 : FIO z A x PP ch) : x.1 11 ≤ 10001 * A.tk := h9.2.1
theorem FIO.rs {z : NSt} {A : AB} {x : NSt} {PP : Nat → Nat} {ch : List Nat} (h9 : FIO z A x PP ch) : A.rm + 384 ≤ 16 * x.1 6 := h9.2.2.1
theorem FIO.f7 {z : NSt} {A : AB} {x : NSt} {PP : Nat → Nat} {ch : List Nat} (h9 : FIO z A x PP ch) : 9 ≤ x.1 7 := h9.2.2.2.1
theorem FIO.s16 {z : NSt} {A : AB} {x : NSt} {PP : Nat → Nat} {ch : List Nat} (h9 : FIO z A x PP ch) : x.1 16 = A.rm := h9.2.2.2.2
def FIC (z : NSt) (A : AB) : Prop := (z.1 0 = A.tl) ∧ (z.1 1 = A.ol) ∧ (A.tl ≤ 2060) ∧ (A.ol ≤ 2000) ∧ (∀ i, i < 2060 → z.2 0 i = A.tp i) ∧ (∀ i, i < A.ol → z.2 1 i = A.tb i) ∧ (∀ i, i < 2060 → A.tp i < 256) ∧ (∀ i, i < A.ol → A.tb i < 256) ∧ (z.1 2 = A.dv) ∧ ((A.ct = 0 ∧ z.1 3 = 4294967295) ∨ (A.ct = 1 ∧ z.1 3 < 2 ^ 31)) ∧ (z.1 4 = A.fw) ∧ (WD z) ∧ (BS z ∧ ∀ n, 2048 ≤ n → z.2 6 n = 0)
theorem FIC.s0 {z : NSt} {A : AB} (h9 : FIC z A) : z.1 0 = A.tl := h9.1
theorem FIC.s1 {z : NSt} {A : AB} (h9 : FIC z A) : z.1 1 = A.ol := h9.2.1
theorem FIC.tl {z : NSt} {A : AB} (h9 : FIC z A) : A.tl ≤ 2060 := h9.2.2.1
theorem FIC.ol {z : NSt} {A : AB} (h9 : FIC z A) : A.ol ≤ 2000 := h9.2.2.2.1
theorem FIC.tp {z : NSt} {A : AB} (h9 : FIC z A) : ∀ i, i < 2060 → z.2 0 i = A.tp i := h9.2.2.2.2.1
theorem FIC.tb {z : NSt} {A : AB} (h9 : FIC z A) : ∀ i, i < A.ol → z.2 1 i = A.tb i := h9.2.2.2.2.2.1
theorem FIC.tpb {z : NSt} {A : AB} (h9 : FIC z A) : ∀ i, i < 2060 → A.tp i < 256 := h9.2.2.2.2.2.2.1
theorem FIC.tbb {z : NSt} {A : AB} (h9 : FIC z A) : ∀ i, i < A.ol → A.tb i < 256 := h9.2.2.2.2.2.2.2.1
theorem FIC.dv {z : NSt} {A : AB} (h9 : FIC z A) : z.1 2 = A.dv := h9.2.2.2.2.2.2.2.2.1
theorem FIC.ct {z : NSt} {A : AB} (h9 : FIC z A) : (A.ct = 0 ∧ z.1 3 = 4294967295) ∨ (A.ct = 1 ∧ z.1 3 < 2 ^ 31) := h9.2.2.2.2.2.2.2.2.2.1
theorem FIC.fw {z : NSt} {A : AB} (h9 : FIC z A) : z.1 4 = A.fw := h9.2.2.2.2.2.2.2.2.2.2.1
theorem FIC.wd {z : NSt} {A : AB} (h9 : FIC z A) : WD z := h9.2.2.2.2.2.2.2.2.2.2.2.1
theorem FIC.bs {z : NSt} {A : AB} (h9 : FIC z A) : BS z ∧ ∀ n, 2048 ≤ n → z.2 6 n = 0 := h9.2.2.2.2.2.2.2.2.2.2.2.2
def FI (z : NSt) (A : AB) : Prop := FIC z A ∧ (A.dv = 0 ∨ (A.dv = 1 ∧ ∃ x PP ch, FIO z A x PP ch) ∨ (A.dv = 2 ∧ ∃ PP ch, FIN z A 0 PP ch))
/-- an answer of the class -/
def Ans (o : Option (Nat × Int32 × St)) (r : ANS) : Prop := Ev o (fun q => ∃ y, q = (r.1, nI r.2.1, up y) ∧ FI y r.2.2)
/-- the class's state is as the tree says, but for rows and counters that do not matter -/
theorem NW.rows {z y : NSt} {T R : TRE} {tk : TKS} {PP : Nat → Nat} {ch : List Nat} (h : NW z T R tk PP ch) (h1 : ∀ k, 5 ≤ k → k ≤ 11 ∨ k = 16 → y.1 k = z.1 k) (h2 : ∀ a, 4 ≤ a → y.2 a = z.2 a) (hw : WD y) : NW y T R tk PP ch :=
  h.frame (h2 4 (by decide)) (h2 6 (by decide)) (h.wk.mem h1 (fun a a1 _ _ _ => h2 a a1) (fun n _ => Or.inl (by rw [h2 7 (by decide)])) hw)
theorem KC_rows {z y : NSt} (h2 : ∀ a, 4 ≤ a → y.2 a = z.2 a) : KC y = KC z := KC_congr (h2 7 (by decide))
theorem NW.fic {z : NSt} {T R : TRE} {tk : TKS} {PP : Nat → Nat} {ch : List Nat} (h : NW z T R tk PP ch) : WD z ∧ BS z ∧ ∀ n, 2048 ≤ n → z.2 6 n = 0 :=
  ⟨h.wk.wd, LG0.bs h.wk.lg.1, fun n hn => Classical.byContradiction (fun q => by
    have := (h.wk.nu n q).2.1
    omega)⟩
