/-! what mounting reads: the chain, its marks, the table -/
theorem goesOn_1 (FU : Nat) {z : NSt} {p : Nat} (h1 : 69 ≤ p) (h2 : p < 2117) (hw : ∀ i, z.2 4 i < 2 ^ 32) (h62 : zV z p 62 = z.1 11) (h61 : 1 ≤ zV z p 61) (h61' : zV z p 61 ≤ 250) : Chk_goesOn FU (nI p) (up z) = some (nI 1) := by
  have hs := sg_lt h1 h2
  unfold Chk_goesOn Log_serial
  rw [show (61 : Int32) = nI 61 from rfl, Dev_word_e FU z h2 (by decide), Option.bind_some, segmentOf_in FU _ h1 h2, Option.bind_some, if_neg (nI_pos (by omega)), show (62 : Int32) = nI 62 from rfl, Dev_word_e FU z h2 (by decide), Option.bind_some, Option.bind_some, up1, ← zV_W (by decide), ← zV_W (by decide), h62, if_pos rfl, show (1 : Int32) = nI 1 from rfl, if_neg (nI_nlt h61 (by omega)), show (250 : Int32) = nI 250 from rfl, if_neg (nI_nlt h61' (by decide))]
theorem goesOn_0 (FU : Nat) {z : NSt} {p : Nat} (h1 : 69 ≤ p) (h2 : p < 2117) (h61 : zV z p 61 = 0) : Chk_goesOn FU (nI p) (up z) = some (nI 0) := by
  have hs := sg_lt h1 h2
  unfold Chk_goesOn Log_serial
  rw [show (61 : Int32) = nI 61 from rfl, Dev_word_e FU z h2 (by decide), Option.bind_some, segmentOf_in FU _ h1 h2, Option.bind_some, if_neg (nI_pos (by omega)), show (62 : Int32) = nI 62 from rfl, Dev_word_e FU z h2 (by decide), Option.bind_some, Option.bind_some, ← zV_W (by decide : (61 : Nat) < 64), h61]
  by_cases c : nI (zW z p 62) = (up z).1 11
  · rw [if_pos c, if_pos (show nI 0 < (1 : Int32) by decide)]; rfl
  · rw [if_neg c]; rfl
/-- the last marks, by owner -/
def fm (W : Nat → Nat → Nat) : (Nat → Nat) → List Nat → Nat → Nat → Nat
  | m, [], _ => m
  | m, b :: l, i => fm W (if W b 59 = 1 then va_up m (W b 61) i else m) l (i + 1)
def OKM (W : Nat → Nat → Nat) (M : Nat → Nat) : List Nat → Nat → Prop
  | [], _ => True
  | b :: l, i => (i ≤ M (W b 61) ↔ hasM W (b :: l) (W b 61) = true) ∧ OKM W M l (i + 1)
theorem fm_ok (W : Nat → Nat → Nat) : ∀ (l : List Nat) (i : Nat) (m : Nat → Nat), (∀ b, b ∈ l → W b 61 ≤ 250) → (∀ o, o ≤ 250 → m o < i) → OKM W (fm W m l i) l i ∧ ∀ o, (hasM W l o = true → i ≤ fm W m l i o) ∧ (hasM W l o = false → fm W m l i o = m o) := by
  intro l
  induction l with
  | nil => intro i m _ _; exact ⟨trivial, fun o => ⟨fun q => absurd q (by simp [hasM]), fun _ => rfl⟩⟩
  | cons b l ih =>
    intro i m hl hm
    obtain ⟨F, eF⟩ : ∃ F, F = fm W m (b :: l) i := ⟨_, rfl⟩
    have hm' : ∀ o, o ≤ 250 → (if W b 59 = 1 then va_up m (W b 61) i else m) o < i + 1 := fun o ho => by
      split
      · unfold va_up
        split
        · omega
        · have := hm o ho; omega
      · have := hm o ho; omega
    obtain ⟨h1, h2⟩ := ih (i + 1) _ (fun c hc => hl c (List.mem_cons_of_mem _ hc)) hm'
    have key : ∀ o, (hasM W (b :: l) o = true → i ≤ fm W m (b :: l) i o) ∧ (hasM W (b :: l) o = false → fm W m (b :: l) i o = m o) := fun o => by
      have e : fm W m (b :: l) i o = fm W (if W b 59 = 1 then va_up m (W b 61) i else m) l (i + 1) o := rfl
      rw [e, hasM_cons]
      cases q : hasM W l o
      · rw [(h2 o).2 q, Bool.or_false]
        by_cases c : W b 59 = 1 ∧ W b 61 = o
        · rw [decide_eq_true c, if_pos c.1, c.2, va_up_self]
          exact ⟨fun _ => Nat.le_refl _, fun w => absurd w (by decide)⟩
        · rw [decide_eq_false c]
          refine ⟨fun w => absurd w (by decide), fun _ => ?_⟩
          split
          · rename_i d
            rw [va_up_ne _ _ (fun w => c ⟨d, w.symm⟩)]
          · rfl
      · rw [Bool.or_true]
        have := (h2 o).1 q
        exact ⟨fun _ => by omega, fun w => absurd w (by decide)⟩
    refine ⟨⟨?_, h1⟩, key⟩
    constructor
    · intro w
      cases q : hasM W (b :: l) (W b 61)
      · have := (key (W b 61)).2 q
        have := hm (W b 61) (hl b (List.mem_cons_self ..))
        omega
      · rfl
    · exact (key (W b 61)).1
/-- how many files have marks that had none -/
def fcn (W : Nat → Nat → Nat) (m : Nat → Nat) (l : List Nat) : Nat := sm (fun o => if m (1 + o) = 0 ∧ hasM W l (1 + o) = true then 1 else 0) 250
theorem fcn_un {W : Nat → Nat → Nat} {m : Nat → Nat} {b : Nat} {l : List Nat} (h : W b 59 ≠ 1) : fcn W m (b :: l) = fcn W m l := sm_congr (fun o _ => by
  rw [hasM_cons, decide_eq_false (fun q => h q.1), Bool.false_or])
theorem fcn_mk {W : Nat → Nat → Nat} {m : Nat → Nat} {b i : Nat} {l : List Nat} (h : W b 59 = 1) (h1 : 1 ≤ W b 61) (h2 : W b 61 ≤ 250) (hi : 1 ≤ i) : fcn W m (b :: l) = (if m (W b 61) = 0 then 1 else 0) + fcn W (va_up m (W b 61) i) l := by
  unfold fcn
  obtain ⟨x, ex⟩ : ∃ x, W b 61 = 1 + x := ⟨W b 61 - 1, by omega⟩
  have hx : x < 250 := by omega
  have hu := sm_up (f := fun o => if m (1 + o) = 0 ∧ hasM W (b :: l) (1 + o) = true then 1 else 0) (i := x) (v := 0) (n := 250) hx
  have e : sm (fun o => if va_up m (W b 61) i (1 + o) = 0 ∧ hasM W l (1 + o) = true then 1 else 0) 250 = sm (va_up (fun o => if m (1 + o) = 0 ∧ hasM W (b :: l) (1 + o) = true then 1 else 0) x 0) 250 := sm_congr (fun o _ => by
    by_cases c : o = x
    · rw [c, va_up_self, ex, va_up_self, if_neg (fun q => by have := q.1; omega)]
    · rw [va_up_ne _ _ c, va_up_ne _ _ (by omega), hasM_cons, decide_eq_false (fun q => c (by have := q.2; omega)), Bool.false_or])
  rw [e]
  have hh : hasM W (b :: l) (1 + x) = true := by rw [hasM_cons, decide_eq_true (⟨h, ex⟩ : W b 59 = 1 ∧ W b 61 = 1 + x), Bool.true_or]
  have hu : sm (va_up (fun o => if m (1 + o) = 0 ∧ hasM W (b :: l) (1 + o) = true then 1 else 0) x 0) 250 + (if m (1 + x) = 0 ∧ hasM W (b :: l) (1 + x) = true then 1 else 0) = sm (fun o => if m (1 + o) = 0 ∧ hasM W (b :: l) (1 + o) = true then 1 else 0) 250 + 0 := hu
  rw [ex]
  by_cases c : m (1 + x) = 0
  · rw [if_pos ⟨c, hh⟩] at hu
    rw [if_pos c]
    omega
  · rw [if_neg (fun q => c q.1)] at hu
    rw [if_neg c]
    omega
/-- the chain on the device, as mounting can read it -/
def RCH (z : NSt) : List Nat → Nat → Prop
  | [], e => 69 ≤ e ∧ e < 2117 ∧ zV z e 61 = 0
  | b :: l, e => b = e ∧ 69 ≤ b ∧ b < 2117 ∧ zV z b 62 = z.1 11 ∧ 1 ≤ zV z b 61 ∧ zV z b 61 ≤ 250 ∧ 1 ≤ zV z b 60 ∧ zV z b 60 < 2048 ∧ RCH z l (zV z b 63)
theorem RCH.congr {z y : NSt} (h4 : y.2 4 = z.2 4) (h11 : y.1 11 = z.1 11) : ∀ {l : List Nat} {e : Nat}, RCH z l e → RCH y l e := by
  have hV : ∀ b, zV y b = zV z b := fun b => zV_congr h4 b
  intro l
  induction l with
  | nil => intro e h; unfold RCH at h ⊢; rw [hV]; exact h
  | cons b l ih =>
    intro e h
    obtain ⟨a1, a2, a3, a4, a5, a6, a7, a8, a9⟩ := h
    refine ⟨a1, a2, a3, ?_, ?_, ?_, ?_, ?_, ?_⟩
    · rw [hV, h11]; exact a4
    · rw [hV]; exact a5
    · rw [hV]; exact a6
    · rw [hV]; exact a7
    · rw [hV]; exact a8
    · rw [hV]; exact ih a9
theorem findMarks_b (FU : Nat) : ∀ (l : List Nat) (e i n c : Nat) (z : NSt), i + l.length ≤ 2117 → l.length < n → 1 ≤ i → (∀ i, z.2 4 i < 2 ^ 32) → (∀ o, o ≤ 250 → z.2 23 o < 2 ^ 31) → RCH z l e → Ev (Chk_findMarks_b15 FU n (nI e) (nI c) (nI i) (up z)) fun r => ∃ y, r = (nI (c + fcn (zV z) (z.2 23) l), up y) ∧ y.1 = z.1 ∧ (∀ a, a ≠ 23 → y.2 a = z.2 a) ∧ y.2 23 = fm (zV z) (z.2 23) l i := by
  intro l
  induction l with
  | nil =>
    intro e i n c z h1 h2 h3 hw hm h
    obtain ⟨n, rfl⟩ : ∃ q9, n = q9 + 1 := ⟨n - 1, by omega⟩
    obtain ⟨a1, a2, a3⟩ := h
    unfold Chk_findMarks_b15
    have h1 : i ≤ 2117 := h1
    rw [show (2117 : Int32) = nI 2117 from rfl, if_neg (nI_nlt h1 (by decide)), goesOn_0 FU a1 a2 a3, Option.bind_some, if_pos i00]
    refine Ev.ret ⟨z, ?_, rfl, fun _ _ => rfl, rfl⟩
    have : fcn (zV z) (z.2 23) [] = 0 := sm_zero (fun o _ => if_neg (fun q => by have := q.2; simp [hasM] at this))
    rw [this, Nat.add_zero]
  | cons b l ih =>
    intro e i n c z h1 h2 h3 hw hm h
    have h2 : l.length + 1 < n := h2
    have h1 : i + (l.length + 1) ≤ 2117 := h1
    obtain ⟨n, rfl⟩ : ∃ q9, n = q9 + 1 := ⟨n - 1, by omega⟩
    obtain ⟨rfl, a2, a3, a4, a5, a6, a7, a8, a9⟩ := h
    have hv32 : ∀ i, zV z b i < 2 ^ 32 := fun i => zV_lt hw b i
    unfold Chk_findMarks_b15
    rw [show (2117 : Int32) = nI 2117 from rfl, if_neg (nI_nlt (by omega) (by decide)), goesOn_1 FU a2 a3 hw a4 a5 a6, Option.bind_some, if_neg (by decide), show (59 : Int32) = nI 59 from rfl, Dev_word_e FU z a3 (by decide), Option.bind_some, ← zV_W (by decide)]
    by_cases c1 : zV z b 59 = 1
    · rw [c1, if_pos i11, show (61 : Int32) = nI 61 from rfl, Dev_word_e FU z a3 (by decide), Option.bind_some, ← zV_W (by decide), rdA_z z 23 (by omega) (by decide), Option.bind_some]
      have hgo : ∀ k, k = (if z.2 23 (zV z b 61) = 0 then 1 else 0) → Ev (Chk_findMarks_b73 FU (Chk_findMarks_b15 FU n) (nI b) (nI i) (nI (zV z b 61)) (nI k) (nI c) (up z)) fun r => ∃ y, r = (nI (c + fcn (zV z) (z.2 23) (b :: l)), up y) ∧ y.1 = z.1 ∧ (∀ a, a ≠ 23 → y.2 a = z.2 a) ∧ y.2 23 = fm (zV z) (z.2 23) (b :: l) i := by
        intro k hk
        unfold Chk_findMarks_b73 Chk_findMarks_b84
        rw [wrA_z z 23 (by omega) (by decide), Option.bind_some]
        obtain ⟨y, ey⟩ : ∃ y, y = zA z 23 (zV z b 61) i := ⟨_, rfl⟩
        have ya : ∀ a, a ≠ 23 → y.2 a = z.2 a := fun a ha => by rw [ey, zA2, if_neg ha]
        have y1 : y.1 = z.1 := by rw [ey]; rfl
        have y23 : y.2 23 = va_up (z.2 23) (zV z b 61) i := by rw [ey, zA2, if_pos rfl]
        have hVy : zV y = zV z := funext (zV_congr (ya 4 (by decide)))
        rw [← ey, show (63 : Int32) = nI 63 from rfl, Dev_word_e FU y a3 (by decide), Option.bind_some, ← zV_W (by decide), hVy, nI_add, nI_1]
        refine (ih (zV z b 63) (i + 1) n (c + k) y (by omega) (by omega) (by omega) (by rw [ya 4 (by decide)]; exact hw) (fun o ho => ?_) (RCH.congr (ya 4 (by decide)) (by rw [y1]) a9)).mono ?_
        · rw [y23]
          unfold va_up
          split
          · omega
          · exact hm o ho
        · rintro r ⟨u, rfl, u1, u2, u3⟩
          refine ⟨u, ?_, by rw [u1, y1], fun a ha => by rw [u2 a ha, ya a ha], ?_⟩
          · rw [fcn_mk c1 a5 a6 h3, hVy, y23, hk]
            rw [show ∀ p q, c + p + q = c + (p + q) from fun p q => by omega]
          · rw [u3, hVy, y23]
            show _ = fm (zV z) (if zV z b 59 = 1 then va_up (z.2 23) (zV z b 61) i else z.2 23) l (i + 1)
            rw [if_pos c1]
      by_cases c2 : z.2 23 (zV z b 61) = 0
      · rw [c2, if_pos i00]
        exact hgo 1 (by rw [if_pos c2])
      · have := hm (zV z b 61) a6
        rw [if_neg (ne0_I (by omega) c2)]
        exact hgo 0 (by rw [if_neg c2])
    · rw [if_neg (show ¬ nI (zV z b 59) = (1 : Int32) from fun q => c1 ((nI_inj (hv32 _) (by decide)).mp q))]
      unfold Chk_findMarks_b84
      rw [show (63 : Int32) = nI 63 from rfl, Dev_word_e FU z a3 (by decide), Option.bind_some, ← zV_W (by decide), nI_1]
      refine (ih (zV z b 63) (i + 1) n c z (by omega) (by omega) (by omega) hw hm a9).mono ?_
      rintro r ⟨u, rfl, u1, u2, u3⟩
      refine ⟨u, by rw [fcn_un c1], u1, u2, ?_⟩
      rw [u3]
      show _ = fm (zV z) (if zV z b 59 = 1 then va_up (z.2 23) (zV z b 61) i else z.2 23) l (i + 1)
      rw [if_neg c1]
theorem bringForward_b (FU : Nat) : ∀ (l : List Nat) (e i n : Nat) (z : NSt), i + l.length ≤ 2117 → l.length < n → 1 ≤ i → (∀ i, z.2 4 i < 2 ^ 32) → (∀ o, o ≤ 250 → z.2 23 o < 2 ^ 31) → RCH z l e → OKM (zV z) (z.2 23) l i → Ev (Chk_bringForward_b4 FU n (nI e) (nI i) (up z)) fun r => ∃ y, r = up y ∧ y.1 = z.1 ∧ (∀ a, a ≠ 6 → y.2 a = z.2 a) ∧ y.2 6 = fwd (zV z) (z.2 6) l := by
  intro l
  induction l with
  | nil =>
    intro e i n z h1 h2 h3 hw hm h hk
    obtain ⟨n, rfl⟩ : ∃ q9, n = q9 + 1 := ⟨n - 1, by omega⟩
    obtain ⟨a1, a2, a3⟩ := h
    have h1 : i ≤ 2117 := h1
    unfold Chk_bringForward_b4
    rw [show (2117 : Int32) = nI 2117 from rfl, if_neg (nI_nlt h1 (by decide)), goesOn_0 FU a1 a2 a3, Option.bind_some, if_pos i00]
    exact Ev.ret ⟨z, rfl, rfl, fun _ _ => rfl, rfl⟩
  | cons b l ih =>
    intro e i n z h1 h2 h3 hw hm h hk
    have h2 : l.length + 1 < n := h2
    have h1 : i + (l.length + 1) ≤ 2117 := h1
    obtain ⟨n, rfl⟩ : ∃ q9, n = q9 + 1 := ⟨n - 1, by omega⟩
    obtain ⟨rfl, a2, a3, a4, a5, a6, a7, a8, a9⟩ := h
    obtain ⟨k1, k2⟩ := hk
    have hmo := hm (zV z b 61) a6
    unfold Chk_bringForward_b4
    rw [show (2117 : Int32) = nI 2117 from rfl, if_neg (nI_nlt (by omega) (by decide)), goesOn_1 FU a2 a3 hw a4 a5 a6, Option.bind_some, if_neg (by decide), show (61 : Int32) = nI 61 from rfl, Dev_word_e FU z a3 (by decide), Option.bind_some, ← zV_W (by decide), rdA_z z 23 (by omega) (by decide), Option.bind_some]
    by_cases c : z.2 23 (zV z b 61) < i
    · rw [if_pos (nI_lt c (by omega))]
      unfold Chk_bringForward_b56
      rw [show (63 : Int32) = nI 63 from rfl, Dev_word_e FU z a3 (by decide), Option.bind_some, ← zV_W (by decide), nI_1]
      refine (ih (zV z b 63) (i + 1) n z (by omega) (by omega) (by omega) hw hm a9 k2).mono ?_
      rintro r ⟨u, rfl, u1, u2, u3⟩
      refine ⟨u, rfl, u1, u2, ?_⟩
      rw [u3]
      show _ = fwd (zV z) (if hasM (zV z) (b :: l) (zV z b 61) = true then va_up (z.2 6) (zV z b 60) b else z.2 6) l
      rw [if_neg (fun q => by have := k1.mpr q; omega)]
    · rw [if_neg (nI_nlt (by omega) (by omega)), show (60 : Int32) = nI 60 from rfl, Dev_word_e FU z a3 (by decide), Option.bind_some, ← zV_W (by decide), Tab_setPlace_z FU z (by omega), Option.bind_some]
      unfold setPl
      rw [if_pos ⟨a7, a8⟩]
      obtain ⟨y, ey⟩ : ∃ y, y = zA z 6 (zV z b 60) b := ⟨_, rfl⟩
      have ya : ∀ a, a ≠ 6 → y.2 a = z.2 a := fun a ha => by rw [ey, zA2, if_neg ha]
      have y1 : y.1 = z.1 := by rw [ey]; rfl
      have y6 : y.2 6 = va_up (z.2 6) (zV z b 60) b := by rw [ey, zA2, if_pos rfl]
      have hVy : zV y = zV z := funext (zV_congr (ya 4 (by decide)))
      unfold Chk_bringForward_b56
      rw [← ey, show (63 : Int32) = nI 63 from rfl, Dev_word_e FU y a3 (by decide), Option.bind_some, ← zV_W (by decide), hVy, nI_1]
      refine (ih (zV z b 63) (i + 1) n y (by omega) (by omega) (by omega) (by rw [ya 4 (by decide)]; exact hw) (by rw [ya 23 (by decide)]; exact hm) (RCH.congr (ya 4 (by decide)) (by rw [y1]) a9) (by rw [hVy, ya 23 (by decide)]; exact k2)).mono ?_
      rintro r ⟨u, rfl, u1, u2, u3⟩
      refine ⟨u, rfl, by rw [u1, y1], fun a ha => by rw [u2 a ha, ya a ha], ?_⟩
      rw [u3, hVy, y6]
      show _ = fwd (zV z) (if hasM (zV z) (b :: l) (zV z b 61) = true then va_up (z.2 6) (zV z b 60) b else z.2 6) l
      rw [if_pos (k1.mp (by omega))]
