/-! the model: pieces and their owners -/
theorem ocN_up {w y : NSt} {i v : Nat} (hi : i < 294423) (h8 : y.2 8 = va_up (w.2 8) i v) (x : Nat) : ocN y x + (if w.2 8 i = x then 1 else 0) = ocN w x + (if v = x then 1 else 0) := by
  have h := sm_up (f := fun j => if w.2 8 j = x then 1 else 0) (i := i) (v := if v = x then 1 else 0) (n := NPC) (by rw [NPC_eq]; exact hi)
  have e : sm (va_up (fun j => if w.2 8 j = x then 1 else 0) i (if v = x then 1 else 0)) NPC = ocN y x := by
    unfold ocN
    refine sm_congr (fun j _ => ?_)
    rw [h8]
    by_cases c : j = i
    · rw [c, va_up_self, va_up_self]
    · rw [va_up_ne _ _ c, va_up_ne _ _ c]
  rw [e] at h
  unfold ocN at h ⊢
  exact h
theorem ocN_le (w : NSt) (x : Nat) : ocN w x ≤ 294423 := by
  have := sm1b (p := fun i => w.2 8 i = x) NPC
  rw [NPC_eq] at this
  unfold ocN
  rw [NPC_eq]
  exact this
theorem ocN_1 {w : NSt} {i x : Nat} (hi : i < 294423) (h : w.2 8 i = x) : 1 ≤ ocN w x := by
  have := sm_one (f := fun j => if w.2 8 j = x then 1 else 0) (i := i) (n := NPC) (by rw [NPC_eq]; exact hi)
  rw [if_pos h] at this
  exact this
theorem ocN_0 {w : NSt} {x : Nat} (h : ocN w x = 0) {i : Nat} (hi : i < 294423) : w.2 8 i ≠ x := fun e => by
  have := ocN_1 hi e
  omega
theorem ocN_two {w : NSt} {i j x : Nat} (hi : i < 294423) (hj : j < 294423) (hne : i ≠ j) (h1 : w.2 8 i = x) (h2 : w.2 8 j = x) : 2 ≤ ocN w x := by
  have a := ocN_up (w := w) (y := zA w 8 i (x + 1)) (i := i) (v := x + 1) hi (by rw [zA2, if_pos rfl]) x
  rw [if_pos h1, if_neg (by omega)] at a
  have b := ocN_1 (w := zA w 8 i (x + 1)) (i := j) (x := x) hj (by rw [zA2, if_pos rfl, va_up_ne _ _ (Ne.symm hne)]; exact h2)
  omega
theorem neg_I : nI neg1 = (-1 : Int32) := by decide
theorem neg_lt {v : Nat} (hv : v = neg1 ∨ v < 6600) : nI v < (0 : Int32) ↔ v = neg1 := by
  rcases hv with rfl | hv
  · exact ⟨fun _ => rfl, fun _ => by decide⟩
  · constructor
    · intro q
      rw [show (0 : Int32) = nI 0 from rfl, nI_ltI (by omega) (by decide)] at q
      omega
    · intro q
      unfold neg1 at q
      omega
/-- leave, as it computes -/
def lvZ (w : NSt) (i : Nat) : NSt := if w.2 8 i = neg1 then zA w 8 i neg1 else zA (zA w 10 (w.2 8 i) (w.2 10 (w.2 8 i) - 1)) 8 i neg1
theorem leave_e (FU : Nat) {w : NSt} {i : Nat} (hi : i < 294423) (h : w.2 8 i = neg1 ∨ (w.2 8 i < 6600 ∧ 1 ≤ w.2 10 (w.2 8 i))) : Mod_leave FU (nI i) (up w) = some (up (lvZ w i)) := by
  unfold Mod_leave lvZ
  rw [rdA_z w 8 hi (by decide), Option.bind_some]
  have hv : w.2 8 i = neg1 ∨ w.2 8 i < 6600 := h.elim Or.inl (fun q => Or.inr q.1)
  by_cases c : w.2 8 i = neg1
  · rw [if_pos ((neg_lt hv).mpr c), ← neg_I, wrA_z w 8 hi (by decide), Option.bind_some, if_pos c]
  · have h1 : w.2 8 i < 6600 ∧ 1 ≤ w.2 10 (w.2 8 i) := h.elim (fun q => absurd q c) (fun q => q)
    rw [if_neg (fun q => c ((neg_lt hv).mp q)), Option.bind_some, rdA_z w 10 h1.1 (by decide), Option.bind_some, ← neg_I, show (1 : Int32) = nI 1 from rfl, pk_sub h1.2, wrA_z w 10 h1.1 (by decide), Option.bind_some, wrA_z _ 8 hi (by decide), Option.bind_some, if_neg c]
theorem lv_8 (w : NSt) (i : Nat) : (lvZ w i).2 8 = va_up (w.2 8) i neg1 := by
  unfold lvZ
  split
  · rw [zA2, if_pos rfl]
  · rw [zA2, if_pos rfl, zA2, if_neg (by decide)]
theorem lv_10 (w : NSt) (i : Nat) : (lvZ w i).2 10 = if w.2 8 i = neg1 then w.2 10 else va_up (w.2 10) (w.2 8 i) (w.2 10 (w.2 8 i) - 1) := by
  unfold lvZ
  by_cases c : w.2 8 i = neg1
  · rw [if_pos c, if_pos c, zA2, if_neg (by decide)]
  · rw [if_neg c, if_neg c, zA2, if_neg (by decide), zA2, if_pos rfl]
theorem lv_a (w : NSt) (i : Nat) {a : Nat} (h1 : a ≠ 8) (h2 : a ≠ 10) : (lvZ w i).2 a = w.2 a := by
  unfold lvZ
  split
  · rw [zA2, if_neg h1]
  · rw [zA2, if_neg h1, zA2, if_neg h2]
theorem lv_1 (w : NSt) (i : Nat) : (lvZ w i).1 = w.1 := by
  unfold lvZ
  split <;> rfl
theorem neg1_lt : neg1 < 2 ^ 32 := by decide
theorem lv_po {w : NSt} (h : PO w) {i : Nat} (hi : i < 294423) : PO (lvZ w i) := by
  have hv := h.pr i hi
  have hn : neg1 = 4294967295 := rfl
  refine ⟨fun j hj => ?_, fun x hx => ?_, by rw [lv_1]; exact h.se, fun a j => ?_⟩
  · rw [lv_8]
    unfold va_up
    split
    · exact Or.inl rfl
    · exact h.pr j hj
  · have hu := ocN_up (w := w) (y := lvZ w i) hi (lv_8 w i) x
    rw [if_neg (show ¬ neg1 = x by omega)] at hu
    rw [lv_10]
    by_cases c : w.2 8 i = neg1
    · rw [if_pos c, h.oc x hx]
      rw [if_neg (show ¬ w.2 8 i = x by omega)] at hu
      omega
    · rw [if_neg c]
      by_cases d : w.2 8 i = x
      · rw [d, va_up_self, h.oc x hx]
        rw [if_pos d] at hu
        omega
      · rw [va_up_ne _ _ (Ne.symm d), h.oc x hx]
        rw [if_neg d] at hu
        omega
  · by_cases c8 : a = 8
    · rw [c8, lv_8]
      unfold va_up
      split
      · exact neg1_lt
      · exact h.wd 8 j
    · by_cases c10 : a = 10
      · rw [c10, lv_10]
        split
        · exact h.wd 10 j
        · unfold va_up
          split
          · have := h.wd 10 (w.2 8 i)
            omega
          · exact h.wd 10 j
      · rw [lv_a w i c8 c10]; exact h.wd a j
theorem leave_z (FU : Nat) {w : NSt} (h : PO w) {i : Nat} (hi : i < 294423) : Mod_leave FU (nI i) (up w) = some (up (lvZ w i)) := by
  refine leave_e FU hi ?_
  rcases h.pr i hi with q | q
  · exact Or.inl q
  · refine Or.inr ⟨q, ?_⟩
    rw [h.oc _ q]
    exact ocN_1 hi rfl
theorem at_z (FU : Nat) (g : St) (l id p : Nat) : Mod_at FU (nI l) (nI id) (nI p) g = some (nI (pcN l id p)) := by
  unfold Mod_at pcN
  rw [show (251 : Int32) = nI 251 from rfl, pk_mul, nI_add, show (391 : Int32) = nI 391 from rfl, pk_mul, nI_add]
theorem pcN_lt {l id p : Nat} (hl : l ≤ 2) (hid : id ≤ 250) (hp : p < 391) : pcN l id p < 294423 := by
  unfold pcN
  omega
theorem pcN_inj {l id p l' id' p' : Nat} (hid : id ≤ 250) (hid' : id' ≤ 250) (hp : p < 391) (hp' : p' < 391) (h : pcN l id p = pcN l' id' p') : l = l' ∧ id = id' ∧ p = p' := by
  unfold pcN at h
  omega
def LVR (y w : NSt) (l id p0 p : Nat) : Prop := (PO y) ∧ (y.1 = w.1) ∧ (∀ a, a ≠ 8 → a ≠ 10 → y.2 a = w.2 a) ∧ (∀ j, y.2 8 j = if pcN l id p0 ≤ j ∧ j < pcN l id p then neg1 else w.2 8 j)
theorem LVR.po {y w : NSt} {l id p0 p : Nat} (h9 : LVR y w l id p0 p) : PO y := h9.1
theorem LVR.sc {y w : NSt} {l id p0 p : Nat} (h9 : LVR y w l id p0 p) : y.1 = w.1 := h9.2.1
theorem LVR.ar {y w : NSt} {l id p0 p : Nat} (h9 : LVR y w l id p0 p) : ∀ a, a ≠ 8 → a ≠ 10 → y.2 a = w.2 a := h9.2.2.1
theorem LVR.pc {y w : NSt} {l id p0 p : Nat} (h9 : LVR y w l id p0 p) : ∀ j, y.2 8 j = if pcN l id p0 ≤ j ∧ j < pcN l id p then neg1 else w.2 8 j := h9.2.2.2
theorem LVR.step {y w : NSt} {l id p0 p : Nat} (h : LVR y w l id p0 p) (hl : l ≤ 2) (hid : id ≤ 250) (hp : p < 391) (h0 : p0 ≤ p) : LVR (lvZ y (pcN l id p)) w l id p0 (p + 1) := by
  have e1 : pcN l id (p + 1) = pcN l id p + 1 := by unfold pcN; omega
  have e0 : pcN l id p0 ≤ pcN l id p := by unfold pcN; omega
  refine ⟨lv_po h.po (pcN_lt hl hid hp), by rw [lv_1]; exact h.sc, fun a a1 a2 => by rw [lv_a _ _ a1 a2]; exact h.ar a a1 a2, fun j => ?_⟩
  rw [lv_8]
  by_cases c : j = pcN l id p
  · rw [c, va_up_self, if_pos (by omega)]
  · rw [va_up_ne _ _ c, h.pc]
    by_cases d : pcN l id p0 ≤ j ∧ j < pcN l id p
    · rw [if_pos d, if_pos (by omega)]
    · rw [if_neg d, if_neg (by omega)]
theorem LVR.rf {w : NSt} (h : PO w) (l id p0 : Nat) : LVR w w l id p0 p0 := ⟨h, rfl, fun _ _ _ => rfl, fun j => by rw [if_neg (by omega)]⟩
theorem drop_b (FU : Nat) {w : NSt} {l id : Nat} (hl : l ≤ 2) (hid : id ≤ 250) : ∀ (m p q : Nat) (y : NSt), p + m = 391 → m < q → LVR y w l id 0 p → Ev (Mod_drop_b28 FU q (nI id) (nI l) (nI p) (up y)) fun r => ∃ x, r = up x ∧ LVR x w l id 0 391 := by
  intro m
  induction m with
  | zero =>
    intro p q y h1 h2 h
    obtain ⟨q, rfl⟩ : ∃ q9, q = q9 + 1 := ⟨q - 1, by omega⟩
    have h1 : p = 391 := h1
    subst h1
    unfold Mod_drop_b28
    rw [if_pos (show (391 : Int32) ≤ nI 391 by decide)]
    exact Ev.ret ⟨y, rfl, h⟩
  | succ m ih =>
    intro p q y h1 h2 h
    obtain ⟨q, rfl⟩ : ∃ q9, q = q9 + 1 := ⟨q - 1, by omega⟩
    unfold Mod_drop_b28
    rw [if_neg (show ¬ (391 : Int32) ≤ nI p from fun v => by
      rw [show (391 : Int32) = nI 391 from rfl, nI_leI (by decide) (by omega)] at v
      omega), at_z, Option.bind_some, leave_z FU h.po (pcN_lt hl hid (by omega)), Option.bind_some, nI_1]
    exact ih (p + 1) q _ (by omega) (by omega) (h.step hl hid (by omega) (by omega))
/-- drop: kind and size 0, no pieces -/
theorem drop_z {FU : Nat} (hF : 140000 < FU) {w : NSt} (h : PO w) {l id : Nat} (hl : l ≤ 2) (hid : id ≤ 250) : Ev (Mod_drop FU (nI id) (nI l) (up w)) fun r => ∃ y, r = up y ∧ PO y ∧ y.1 = w.1 ∧ (∀ a, a ≠ 2 → a ≠ 3 → a ≠ 8 → a ≠ 10 → y.2 a = w.2 a) ∧ y.2 2 = va_up (w.2 2) (251 * l + id) 0 ∧ y.2 3 = va_up (w.2 3) (251 * l + id) 0 ∧ ∀ j, y.2 8 j = if pcN l id 0 ≤ j ∧ j < pcN l id 391 then neg1 else w.2 8 j := by
  unfold Mod_drop
  rw [show (251 : Int32) * nI l = nI (251 * l) from pk_mul 251 l, nI_add, show (0 : Int32) = nI 0 from rfl, wrA_z w 2 (by omega) (by decide), Option.bind_some, wrA_z _ 3 (by omega) (by decide), Option.bind_some]
  obtain ⟨x, ex⟩ : ∃ x, x = zA (zA w 2 (251 * l + id) 0) 3 (251 * l + id) 0 := ⟨_, rfl⟩
  rw [← ex]
  have xa : ∀ a, a ≠ 2 → a ≠ 3 → x.2 a = w.2 a := fun a a1 a2 => by rw [ex, zA2, if_neg a2, zA2, if_neg a1]
  have x2 : x.2 2 = va_up (w.2 2) (251 * l + id) 0 := by rw [ex, zA2, if_neg (by decide), zA2, if_pos rfl]
  have x3 : x.2 3 = va_up (w.2 3) (251 * l + id) 0 := by rw [ex, zA2, if_pos rfl, zA2, if_neg (by decide)]
  have hx : PO x := h.keep (by rw [ex]; exact h.se) (xa 8 (by decide) (by decide)) (xa 10 (by decide) (by decide)) (fun a i => by
    by_cases c2 : a = 2
    · rw [c2, x2]; unfold va_up; split
      · decide
      · exact h.wd 2 i
    · by_cases c3 : a = 3
      · rw [c3, x3]; unfold va_up; split
        · decide
        · exact h.wd 3 i
      · rw [xa a c2 c3]; exact h.wd a i)
  refine (drop_b FU hl hid 391 0 FU x (by omega) (by omega) (LVR.rf hx l id 0)).mono ?_
  rintro _ ⟨y, rfl, hy⟩
  refine ⟨y, rfl, hy.po, by rw [hy.sc, ex]; rfl, fun a a1 a2 a3 a4 => by rw [hy.ar a a3 a4, xa a a1 a2], by rw [hy.ar 2 (by decide) (by decide), x2], by rw [hy.ar 3 (by decide) (by decide), x3], fun j => ?_⟩
  rw [hy.pc, xa 8 (by decide) (by decide)]
/-- one piece is shared -/
def CPY (y w : NSt) (fl tl id p : Nat) : Prop := (PO y) ∧ (y.1 = w.1) ∧ (∀ a, a ≠ 8 → a ≠ 10 → y.2 a = w.2 a) ∧ (∀ j, y.2 8 j = if pcN tl id 0 ≤ j ∧ j < pcN tl id p then w.2 8 (pcN fl id (j - pcN tl id 0)) else w.2 8 j)
theorem CPY.po {y w : NSt} {fl tl id p : Nat} (h9 : CPY y w fl tl id p) : PO y := h9.1
theorem CPY.sc {y w : NSt} {fl tl id p : Nat} (h9 : CPY y w fl tl id p) : y.1 = w.1 := h9.2.1
theorem CPY.ar {y w : NSt} {fl tl id p : Nat} (h9 : CPY y w fl tl id p) : ∀ a, a ≠ 8 → a ≠ 10 → y.2 a = w.2 a := h9.2.2.1
theorem CPY.pc {y w : NSt} {fl tl id p : Nat} (h9 : CPY y w fl tl id p) : ∀ j, y.2 8 j = if pcN tl id 0 ≤ j ∧ j < pcN tl id p then w.2 8 (pcN fl id (j - pcN tl id 0)) else w.2 8 j := h9.2.2.2
theorem copy_b (FU : Nat) {w : NSt} {fl tl id : Nat} (hfl : fl ≤ 2) (htl : tl ≤ 2) (hne : fl ≠ tl) (hid : id ≤ 250) : ∀ (m p q : Nat) (y : NSt), p + m = 391 → m < q → CPY y w fl tl id p → Ev (Mod_copyFile_b49 FU q (nI id) (nI fl) (nI tl) (nI p) (up y)) fun r => ∃ x, r = up x ∧ CPY x w fl tl id 391 := by
  intro m
  induction m with
  | zero =>
    intro p q y h1 h2 h
    obtain ⟨q, rfl⟩ : ∃ q9, q = q9 + 1 := ⟨q - 1, by omega⟩
    have h1 : p = 391 := h1
    subst h1
    unfold Mod_copyFile_b49
    rw [if_pos (show (391 : Int32) ≤ nI 391 by decide)]
    exact Ev.ret ⟨y, rfl, h⟩
  | succ m ih =>
    intro p q y h1 h2 h
    obtain ⟨q, rfl⟩ : ∃ q9, q = q9 + 1 := ⟨q - 1, by omega⟩
    have hi := pcN_lt hfl hid (show p < 391 by omega)
    have hj := pcN_lt htl hid (show p < 391 by omega)
    have hij : pcN fl id p ≠ pcN tl id p := fun e => hne (pcN_inj hid hid (by omega) (by omega) e).1
    have hn : neg1 = 4294967295 := rfl
    have e0 : pcN tl id 0 + p = pcN tl id p := by unfold pcN; omega
    have e1 : pcN tl id (p + 1) = pcN tl id p + 1 := by unfold pcN; omega
    obtain ⟨x, ex⟩ : ∃ x, x = y.2 8 (pcN fl id p) := ⟨_, rfl⟩
    have exw : x = w.2 8 (pcN fl id p) := by
      rw [ex, h.pc, if_neg (fun q => by
        unfold pcN at q
        omega)]
    have hx := h.po.pr _ hi
    rw [← ex] at hx
    -- the state behind this step
    have fin : ∀ (z : NSt), z.1 = y.1 → (∀ a, a ≠ 8 → a ≠ 10 → z.2 a = y.2 a) → z.2 8 = va_up (y.2 8) (pcN tl id p) x → (∀ t, t < 6600 → z.2 10 t = ocN z t) → (∀ t, z.2 10 t < 2 ^ 32) → CPY z w fl tl id (p + 1) := fun z z1 za z8 z10 zw => by
      refine ⟨⟨fun j hj' => ?_, z10, by rw [z1]; exact h.po.se, fun a i => ?_⟩, by rw [z1]; exact h.sc, fun a a1 a2 => by rw [za a a1 a2]; exact h.ar a a1 a2, fun j => ?_⟩
      · rw [z8]
        unfold va_up
        split
        · exact hx
        · exact h.po.pr j hj'
      · by_cases c8 : a = 8
        · rw [c8, z8]
          unfold va_up
          split
          · rw [ex]; exact h.po.wd 8 _
          · exact h.po.wd 8 i
        · by_cases c10 : a = 10
          · rw [c10]; exact zw i
          · rw [za a c8 c10]; exact h.po.wd a i
      · rw [z8]
        by_cases c : j = pcN tl id p
        · rw [c, va_up_self, if_pos (by omega), exw, show pcN tl id p - pcN tl id 0 = p by omega]
        · rw [va_up_ne _ _ c, h.pc]
          by_cases d : pcN tl id 0 ≤ j ∧ j < pcN tl id p
          · rw [if_pos d, if_pos (by omega)]
          · rw [if_neg d, if_neg (by omega)]
    unfold Mod_copyFile_b49
    rw [if_neg (show ¬ (391 : Int32) ≤ nI p from fun v => by
      rw [show (391 : Int32) = nI 391 from rfl, nI_leI (by decide) (by omega)] at v
      omega), at_z, Option.bind_some, rdA_z y 8 hi (by decide), Option.bind_some, ← ex]
    by_cases c : x = neg1
    · rw [if_pos ((neg_lt hx).mpr c)]
      unfold Mod_copyFile_b87
      rw [at_z, Option.bind_some, leave_z FU h.po hj, Option.bind_some, at_z, Option.bind_some, wrA_z _ 8 hj (by decide), Option.bind_some, nI_1]
      refine ih (p + 1) q _ (by omega) (by omega) (fin _ (by rw [zA1, lv_1]) (fun a a1 a2 => by rw [zA2, if_neg a1, lv_a _ _ a1 a2]) ?_ (fun t ht => ?_) (fun t => ?_))
      · rw [zA2, if_pos rfl, lv_8]
        funext j
        by_cases d : j = pcN tl id p
        · rw [d, va_up_self, va_up_self]
        · rw [va_up_ne _ _ d, va_up_ne _ _ d, va_up_ne _ _ d]
      · have hp := lv_po h.po hj
        have hu := ocN_up (w := lvZ y (pcN tl id p)) (y := zA (lvZ y (pcN tl id p)) 8 (pcN tl id p) x) hj (by rw [zA2, if_pos rfl]) t
        have hs : (lvZ y (pcN tl id p)).2 8 (pcN tl id p) = neg1 := by rw [lv_8, va_up_self]
        rw [hs, if_neg (by omega), if_neg (by omega)] at hu
        rw [zA2, if_neg (by decide), hp.oc t ht]
        omega
      · rw [zA2, if_neg (by decide)]
        exact (lv_po h.po hj).wd 10 t
    · have hx6 : x < 6600 := hx.elim (fun q => absurd q c) (fun q => q)
      rw [if_neg (fun v => c ((neg_lt hx).mp v)), rdA_z y 10 hx6 (by decide), Option.bind_some, nI_1, wrA_z y 10 hx6 (by decide), Option.bind_some]
      obtain ⟨v, ev⟩ : ∃ v, v = zA y 10 x (y.2 10 x + 1) := ⟨_, rfl⟩
      rw [← ev]
      have v8 : v.2 8 = y.2 8 := by rw [ev, zA2, if_neg (by decide)]
      have v10 : v.2 10 = va_up (y.2 10) x (y.2 10 x + 1) := by rw [ev, zA2, if_pos rfl]
      have va : ∀ a, a ≠ 10 → v.2 a = y.2 a := fun a ha => by rw [ev, zA2, if_neg ha]
      have v1 : v.1 = y.1 := by rw [ev]; rfl
      have ve : ∀ t, t < 6600 → v.2 10 t = ocN y t + if t = x then 1 else 0 := fun t ht => by
        rw [v10]
        by_cases d : t = x
        · rw [d, va_up_self, if_pos rfl, h.po.oc x hx6]
        · rw [va_up_ne _ _ d, if_neg d, h.po.oc t ht]; rfl
      unfold Mod_copyFile_b87
      have hold := h.po.pr _ hj
      rw [at_z, Option.bind_some, leave_e FU hj (by
        rw [v8]
        rcases hold with q | q
        · exact Or.inl q
        · refine Or.inr ⟨q, ?_⟩
          rw [ve _ q]
          have := ocN_1 (w := y) hj rfl
          omega), Option.bind_some, at_z, Option.bind_some, wrA_z _ 8 hj (by decide), Option.bind_some, nI_1]
      have z8 : (zA (lvZ v (pcN tl id p)) 8 (pcN tl id p) x).2 8 = va_up (y.2 8) (pcN tl id p) x := by
        rw [zA2, if_pos rfl, lv_8, v8]
        funext j
        by_cases d : j = pcN tl id p
        · rw [d, va_up_self, va_up_self]
        · rw [va_up_ne _ _ d, va_up_ne _ _ d, va_up_ne _ _ d]
      refine ih (p + 1) q _ (by omega) (by omega) (fin _ (by rw [zA1, lv_1, v1]) (fun a a1 a2 => by rw [zA2, if_neg a1, lv_a _ _ a1 a2, va a a2]) z8 (fun t ht => ?_) (fun t => ?_))
      · have hu := ocN_up (w := y) (y := zA (lvZ v (pcN tl id p)) 8 (pcN tl id p) x) hj z8 t
        rw [zA2, if_neg (by decide), lv_10, v8]
        by_cases d : y.2 8 (pcN tl id p) = neg1
        · rw [if_pos d, ve t ht]
          rw [if_neg (show ¬ y.2 8 (pcN tl id p) = t by omega)] at hu
          by_cases e : t = x
          · rw [if_pos e]
            rw [if_pos e.symm] at hu
            omega
          · rw [if_neg e]
            rw [if_neg (Ne.symm e)] at hu
            omega
        · have ho6 : y.2 8 (pcN tl id p) < 6600 := hold.elim (fun q => absurd q d) (fun q => q)
          rw [if_neg d]
          by_cases f : t = y.2 8 (pcN tl id p)
          · have h1' := ocN_1 (w := y) hj rfl
            rw [← f] at h1'
            rw [f, va_up_self, ← f, ve t ht]
            rw [if_pos f.symm] at hu
            by_cases e : t = x
            · rw [if_pos e]
              rw [if_pos e.symm] at hu
              omega
            · rw [if_neg e]
              rw [if_neg (Ne.symm e)] at hu
              omega
          · rw [va_up_ne _ _ f, ve t ht]
            rw [if_neg (Ne.symm f)] at hu
            by_cases e : t = x
            · rw [if_pos e]
              rw [if_pos e.symm] at hu
              omega
            · rw [if_neg e]
              rw [if_neg (Ne.symm e)] at hu
              omega
      · rw [zA2, if_neg (by decide), lv_10]
        have hb : ∀ t, v.2 10 t < 2 ^ 32 := fun t => by
          rw [v10]
          by_cases d : t = x
          · rw [d, va_up_self, h.po.oc x hx6]
            have := ocN_le y x
            omega
          · rw [va_up_ne _ _ d]; exact h.po.wd 10 t
        split
        · exact hb t
        · unfold va_up
          split
          · have := hb (v.2 8 (pcN tl id p))
            omega
          · exact hb t
theorem copyFile_z {FU : Nat} (hF : 140000 < FU) {w : NSt} (h : PO w) {fl tl id : Nat} (hfl : fl ≤ 2) (htl : tl ≤ 2) (hne : fl ≠ tl) (hid : id ≤ 250) (h5 : w.2 5 (251 * fl + id) ≤ 1) : Ev (Mod_copyFile FU (nI id) (nI fl) (nI tl) (up w)) fun r => ∃ y, r = up y ∧ PO y ∧ y.1 = w.1 ∧ (∀ a, a ≠ 3 → a ≠ 5 → a ≠ 8 → a ≠ 10 → y.2 a = w.2 a) ∧ y.2 3 = va_up (w.2 3) (251 * tl + id) (w.2 3 (251 * fl + id)) ∧ y.2 5 = va_up (w.2 5) (251 * tl + id) (w.2 5 (251 * fl + id)) ∧ ∀ j, y.2 8 j = if pcN tl id 0 ≤ j ∧ j < pcN tl id 391 then w.2 8 (pcN fl id (j - pcN tl id 0)) else w.2 8 j := by
  unfold Mod_copyFile
  have hnz : nz (nI (w.2 5 (251 * fl + id))) = nI (w.2 5 (251 * fl + id)) := by
    rcases (show w.2 5 (251 * fl + id) = 0 ∨ w.2 5 (251 * fl + id) = 1 by omega) with q | q
    · rw [q]; exact nz_n0
    · rw [q]; exact nz_n1
  rw [show (251 : Int32) * nI fl = nI (251 * fl) from pk_mul 251 fl, show (251 : Int32) * nI tl = nI (251 * tl) from pk_mul 251 tl, nI_add, nI_add, rdA_z w 3 (by omega) (by decide), Option.bind_some, wrA_z w 3 (by omega) (by decide), Option.bind_some, rdA_z _ 5 (by omega) (by decide), Option.bind_some, show (zA w 3 (251 * tl + id) (w.2 3 (251 * fl + id))).2 5 = w.2 5 by rw [zA2, if_neg (by decide)], hnz, wrA_z _ 5 (by omega) (by decide), Option.bind_some, show (0 : Int32) = nI 0 from rfl]
  obtain ⟨x, ex⟩ : ∃ x, x = zA (zA w 3 (251 * tl + id) (w.2 3 (251 * fl + id))) 5 (251 * tl + id) (w.2 5 (251 * fl + id)) := ⟨_, rfl⟩
  rw [← ex]
  have xa : ∀ a, a ≠ 3 → a ≠ 5 → x.2 a = w.2 a := fun a a1 a2 => by rw [ex, zA2, if_neg a2, zA2, if_neg a1]
  have x3 : x.2 3 = va_up (w.2 3) (251 * tl + id) (w.2 3 (251 * fl + id)) := by rw [ex, zA2, if_neg (by decide), zA2, if_pos rfl]
  have x5 : x.2 5 = va_up (w.2 5) (251 * tl + id) (w.2 5 (251 * fl + id)) := by rw [ex, zA2, if_pos rfl, zA2, if_neg (by decide)]
  have hx : PO x := h.keep (by rw [ex]; exact h.se) (xa 8 (by decide) (by decide)) (xa 10 (by decide) (by decide)) (fun a i => by
    by_cases c2 : a = 3
    · rw [c2, x3]; unfold va_up; split <;> exact h.wd 3 _
    · by_cases c3 : a = 5
      · rw [c3, x5]; unfold va_up; split <;> exact h.wd 5 _
      · rw [xa a c2 c3]; exact h.wd a i)
  refine (copy_b FU hfl htl hne hid 391 0 FU x (by omega) (by omega) ⟨hx, rfl, fun _ _ _ => rfl, fun j => by rw [if_neg (by omega)]⟩).mono ?_
  rintro _ ⟨y, rfl, hy⟩
  refine ⟨y, rfl, hy.po, by rw [hy.sc, ex]; rfl, fun a a1 a2 a3 a4 => by rw [hy.ar a a3 a4, xa a a1 a2], by rw [hy.ar 3 (by decide) (by decide), x3], by rw [hy.ar 5 (by decide) (by decide), x5], fun j => ?_⟩
  rw [hy.pc, xa 8 (by decide) (by decide)]
/-! a free one is taken -/
theorem zero256_b (FU : Nat) {w : NSt} {x : Nat} (hx : x < 6600) : ∀ (m k q : Nat) (y : NSt), k + m = 256 → m < q → y.1 = w.1 → w.1 11 = x → (∀ a, a ≠ 9 → y.2 a = w.2 a) → (∀ j, y.2 9 j = if 256 * x ≤ j ∧ j < 256 * x + k then 0 else w.2 9 j) → Ev (Mod_take_b53 FU q (nI k) (up y)) fun r => ∃ z, r = (nI x, up z) ∧ z.1 = w.1 ∧ (∀ a, a ≠ 9 → z.2 a = w.2 a) ∧ ∀ j, z.2 9 j = if 256 * x ≤ j ∧ j < 256 * x + 256 then 0 else w.2 9 j := by
  intro m
  induction m with
  | zero =>
    intro k q y h1 h2 y1 w11 ya y9
    obtain ⟨q, rfl⟩ : ∃ q9, q = q9 + 1 := ⟨q - 1, by omega⟩
    have h1 : k = 256 := h1
    subst h1
    unfold Mod_take_b53
    rw [if_pos (show (256 : Int32) ≤ nI 256 by decide), up1, y1, w11]
    exact Ev.ret ⟨y, rfl, y1, ya, y9⟩
  | succ m ih =>
    intro k q y h1 h2 y1 w11 ya y9
    obtain ⟨q, rfl⟩ : ∃ q9, q = q9 + 1 := ⟨q - 1, by omega⟩
    unfold Mod_take_b53
    rw [if_neg (show ¬ (256 : Int32) ≤ nI k from fun v => by
      rw [show (256 : Int32) = nI 256 from rfl, nI_leI (by decide) (by omega)] at v
      omega), up1, y1, w11, show (256 : Int32) * nI x = nI (256 * x) from pk_mul 256 x, nI_add, show nby (0 : Int32) = nI 0 by decide, wrA_z y 9 (by omega) (by decide), Option.bind_some, nI_1]
    refine ih (k + 1) q _ (by omega) (by omega) y1 w11 (fun a ha => by rw [zA2, if_neg ha]; exact ya a ha) (fun j => ?_)
    rw [zA2, if_pos rfl]
    show (if j = 256 * x + k then 0 else y.2 9 j) = _
    rw [y9]
    by_cases c : j = 256 * x + k
    · rw [if_pos c, if_pos (by omega)]
    · rw [if_neg c]
      by_cases d : 256 * x ≤ j ∧ j < 256 * x + k
      · rw [if_pos d, if_pos (by omega)]
      · rw [if_neg d, if_neg (by omega)]
theorem take_b {FU : Nat} (hF : 140000 < FU) {w : NSt} (h : PO w) {x0 : Nat} (hx0 : x0 < 6600) (h0 : w.2 10 x0 = 0) : ∀ (m q s : Nat), m < 6600 → (s + m = x0 ∨ s + m = x0 + 6600) → s < 6600 → m < q → Ev (Mod_take_b0 FU q (up (zI w 11 s))) fun r => ∃ y x, r = (nI x, up y) ∧ x < 6600 ∧ w.2 10 x = 0 ∧ y.1 11 = x ∧ (∀ k, k ≠ 11 → y.1 k = w.1 k) ∧ (∀ a, a ≠ 9 → a ≠ 10 → y.2 a = w.2 a) ∧ y.2 10 = va_up (w.2 10) x 1 ∧ ∀ j, y.2 9 j = if 256 * x ≤ j ∧ j < 256 * x + 256 then 0 else w.2 9 j := by
  intro m
  induction m with
  | zero =>
    intro q s hm hs1 hs hq
    obtain ⟨q, rfl⟩ : ∃ q9, q = q9 + 1 := ⟨q - 1, by omega⟩
    have e : s = x0 := by omega
    subst e
    unfold Mod_take_b0
    rw [up1, zI1, if_pos rfl, rdA_z _ 10 hs (by decide), Option.bind_some, zI2, h0, if_pos (show nI 0 ≤ (0 : Int32) by decide), show (1 : Int32) = nI 1 from rfl, wrA_z _ 10 hs (by decide), Option.bind_some, show (0 : Int32) = nI 0 from rfl]
    refine (zero256_b FU hs 256 0 FU (w := zA (zI w 11 s) 10 s 1) (zA (zI w 11 s) 10 s 1) (by omega) (by omega) rfl (by rw [zA1, zI1, if_pos rfl]) (fun _ _ => rfl) (fun j => by rw [if_neg (by omega)])).mono ?_
    rintro _ ⟨z, rfl, z1, z2, z3⟩
    refine ⟨z, s, rfl, hs, h0, by rw [z1, zA1, zI1, if_pos rfl], fun k hk => by rw [z1, zA1, zI1, if_neg hk], fun a a1 a2 => by rw [z2 a a1, zA2, if_neg a2, zI2], by rw [z2 10 (by decide), zA2, if_pos rfl, zI2], fun j => ?_⟩
    rw [z3]
    rfl
  | succ m ih =>
    intro q s hm hs1 hs hq
    obtain ⟨q, rfl⟩ : ∃ q9, q = q9 + 1 := ⟨q - 1, by omega⟩
    unfold Mod_take_b0
    have hb : w.2 10 s ≤ 294423 := by rw [h.oc s hs]; exact ocN_le w s
    rw [up1, zI1, if_pos rfl, rdA_z _ 10 hs (by decide), Option.bind_some, zI2]
    by_cases c : w.2 10 s = 0
    · rw [c, if_pos (show nI 0 ≤ (0 : Int32) by decide), show (1 : Int32) = nI 1 from rfl, wrA_z _ 10 hs (by decide), Option.bind_some, show (0 : Int32) = nI 0 from rfl]
      refine (zero256_b FU hs 256 0 FU (w := zA (zI w 11 s) 10 s 1) (zA (zI w 11 s) 10 s 1) (by omega) (by omega) rfl (by rw [zA1, zI1, if_pos rfl]) (fun _ _ => rfl) (fun j => by rw [if_neg (by omega)])).mono ?_
      rintro _ ⟨z, rfl, z1, z2, z3⟩
      refine ⟨z, s, rfl, hs, c, by rw [z1, zA1, zI1, if_pos rfl], fun k hk => by rw [z1, zA1, zI1, if_neg hk], fun a a1 a2 => by rw [z2 a a1, zA2, if_neg a2, zI2], by rw [z2 10 (by decide), zA2, if_pos rfl, zI2], fun j => ?_⟩
      rw [z3]
      rfl
    · rw [if_neg (show ¬ nI (w.2 10 s) ≤ (0 : Int32) from fun v => by
        rw [show (0 : Int32) = nI 0 from rfl, nI_leI (by omega) (by decide)] at v
        omega), nI_1]
      unfold Mod_take_b35
      have zz : ∀ t, setI (up (zI w 11 s)) 11 (nI t) = up (zI w 11 t) := fun t => by
        rw [up_I]
        congr 1
        refine Prod.ext (funext fun k => ?_) rfl
        rw [zI1, zI1, zI1]
        by_cases d : k = 11
        · rw [if_pos d, if_pos d]
        · rw [if_neg d, if_neg d, if_neg d]
      by_cases d : s + 1 = 6600
      · rw [if_pos (show nI (s + 1) = (6600 : Int32) by rw [d]; rfl), nx_eq, show (0 : Int32) = nI 0 from rfl, zz]
        exact ih q 0 (by omega) (by omega) (by omega) (by omega)
      · rw [if_neg (fun v : nI (s + 1) = (6600 : Int32) => d ((eqN (by omega) (c := 6600) (by decide)).mp v)), nx_eq, zz]
        exact ih q (s + 1) (by omega) (by omega) (by omega) (by omega)
theorem take_z {FU : Nat} (hF : 140000 < FU) {w : NSt} (h : PO w) (hx : ∃ x, x < 6600 ∧ w.2 10 x = 0) : Ev (Mod_take FU (up w)) fun r => ∃ y x, r = (nI x, up y) ∧ x < 6600 ∧ w.2 10 x = 0 ∧ y.1 11 = x ∧ (∀ k, k ≠ 11 → y.1 k = w.1 k) ∧ (∀ a, a ≠ 9 → a ≠ 10 → y.2 a = w.2 a) ∧ y.2 10 = va_up (w.2 10) x 1 ∧ ∀ j, y.2 9 j = if 256 * x ≤ j ∧ j < 256 * x + 256 then 0 else w.2 9 j := by
  obtain ⟨x0, hx0, h0⟩ := hx
  have hs := h.se
  have e : zI w 11 (w.1 11) = w := by
    refine Prod.ext (funext fun k => ?_) rfl
    rw [zI1]
    by_cases c : k = 11
    · rw [if_pos c, c]
    · rw [if_neg c]
  unfold Mod_take
  have : ∃ m, m < 6600 ∧ (w.1 11 + m = x0 ∨ w.1 11 + m = x0 + 6600) := by
    by_cases c : w.1 11 ≤ x0
    · exact ⟨x0 - w.1 11, by omega, by omega⟩
    · exact ⟨x0 + 6600 - w.1 11, by omega, by omega⟩
  obtain ⟨m, m1, m2⟩ := this
  have := take_b hF h hx0 h0 m FU (w.1 11) m1 m2 hs (by omega)
  rw [e] at this
  exact this
/-- there is a free one -/
noncomputable def pcs (w : NSt) : Nat := sm (fun i => if w.2 8 i = neg1 then 0 else 1) NPC
theorem free_ex {w : NSt} (h : PO w) (hp : pcs w < 6600) : ∃ x, x < 6600 ∧ w.2 10 x = 0 := by
  refine Classical.byContradiction (fun q => ?_)
  have h1 : ∀ x, x < 6600 → 1 ≤ ocN w x := fun x hx => by
    rw [← h.oc x hx]
    have : w.2 10 x ≠ 0 := fun e => q ⟨x, hx, e⟩
    omega
  have h2 := sm_le (f := fun _ => 1) (g := ocN w) (n := 6600) h1
  rw [sm_const] at h2
  have h3 : sm (ocN w) 6600 = pcs w := by
    unfold pcs
    have e : (fun x => ocN w x) = fun x => sm (fun i => if w.2 8 i = x then 1 else 0) NPC := rfl
    show sm (fun x => ocN w x) 6600 = _
    rw [e, sm_swap]
    refine sm_congr (fun i hi => ?_)
    rw [NPC_eq] at hi
    by_cases c : w.2 8 i = neg1
    · rw [if_pos c]
      refine sm_zero (fun x hx => if_neg (fun v => ?_))
      rw [c] at v
      unfold neg1 at v
      omega
    · rw [if_neg c]
      have h6 := (h.pr i hi).elim (fun v => absurd v c) (fun v => v)
      exact sm_uniq (P := fun x => w.2 8 i = x) h6 rfl (fun y _ e => e.symm)
  omega
