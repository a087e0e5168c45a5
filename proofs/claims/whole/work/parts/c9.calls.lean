/-! the model: how its calls begin; the calls that are short -/
def MH (w : NSt) (A : AB) : Prop := (MI w A) ∧ (A.dv = 2 → AT A) ∧ (AI A 0) ∧ (A.dv = 2 → A.us < 2 ^ 28 ∧ inT A.T < 2 ^ 28)
theorem MH.mi {w : NSt} {A : AB} (h9 : MH w A) : MI w A := h9.1
theorem MH.tt {w : NSt} {A : AB} (h9 : MH w A) : A.dv = 2 → AT A := h9.2.1
theorem MH.ai {w : NSt} {A : AB} (h9 : MH w A) : AI A 0 := h9.2.2.1
theorem MH.ub {w : NSt} {A : AB} (h9 : MH w A) : A.dv = 2 → A.us < 2 ^ 28 ∧ inT A.T < 2 ^ 28 := h9.2.2.2
theorem AnsM.mk {y : NSt} {B : AB} {c v : Nat} {i : Int32} (hy : MI y B) (h0 : y.1 0 = c) (hv : c = 0 → i = nI v) : AnsM (some (i, up y)) c (c, v, B) := Ev.ret ⟨y, rfl, h0, hv, hy⟩
theorem AnsV.mk {y : NSt} {B : AB} {c v : Nat} (hy : MI y B) (h0 : y.1 0 = c) : AnsV (some (up y)) c (c, v, B) := Ev.ret ⟨y, rfl, h0, hy⟩
theorem off_m (FU : Nat) {w : NSt} {A : AB} (h : MI w A) {r : ANS} {K : Int32 × St → Option (Int32 × St)} (h2 : ∀ x, K (nI 1, up x) = some ((0 : Int32), up x)) (h1 : A.dv = 2 → MI (thw w 0) A → (thw w 0).1 0 = 0 → AnsM (K (nI 0, up (thw w 0))) r.1 r) : AnsM ((Mod_isOff FU (up w)).bind K) (pwrA A r).1 (pwrA A r) := by
  rw [isOff_z FU h, Option.bind_some]
  unfold pwrA
  by_cases c : A.dv = 2
  · rw [if_pos c, if_pos c, if_pos c]
    exact h1 c (h.tw 0) (thw0 w 0)
  · rw [if_neg c, if_neg c, if_neg c, h2]
    exact AnsM.mk (h.tw 2) (thw0 w 2) (fun q => by cases q)
theorem off_v (FU : Nat) {w : NSt} {A : AB} (h : MI w A) {r : ANS} {K : Int32 × St → Option St} (h2 : ∀ x, K (nI 1, up x) = some (up x)) (h1 : A.dv = 2 → MI (thw w 0) A → (thw w 0).1 0 = 0 → AnsV (K (nI 0, up (thw w 0))) r.1 r) : AnsV ((Mod_isOff FU (up w)).bind K) (pwrA A r).1 (pwrA A r) := by
  rw [isOff_z FU h, Option.bind_some]
  unfold pwrA
  by_cases c : A.dv = 2
  · rw [if_pos c, if_pos c, if_pos c]
    exact h1 c (h.tw 0) (thw0 w 0)
  · rw [if_neg c, if_neg c, if_neg c, h2]
    exact AnsV.mk (h.tw 2) (thw0 w 2)
theorem thr_m (FU : Nat) {w : NSt} {B : AB} (h : MI w B) {a b : Nat} (ha : a ≤ 1) (hb : b ≤ 1) {r : ANS} {K : Int32 × St → Option (Int32 × St)} (h2 : ∀ x, K (nI 1, up x) = some ((0 : Int32), up x)) (e1 : a = 1 → r = (1, 0, B)) (e2 : a = 0 → b = 1 → r = (2, 0, B)) (e0 : a = 0 → b = 0 → MI (thw w 0) B → (thw w 0).1 0 = 0 → AnsM (K (nI 0, up (thw w 0))) r.1 r) : AnsM ((Mod_throwing FU (nI a) (nI b) (up w)).bind K) r.1 r := by
  rw [throwing_z FU w ha hb, Option.bind_some]
  rcases (show a = 0 ∨ a = 1 by omega) with c | c
  · rcases (show b = 0 ∨ b = 1 by omega) with d | d
    · rw [if_neg (by omega), if_neg (by omega), if_neg (by omega)]
      exact e0 c d (h.tw 0) (thw0 w 0)
    · rw [if_pos (Or.inr d), if_neg (by omega), if_pos d, h2, e2 c d]
      exact AnsM.mk (h.tw 2) (thw0 w 2) (fun q => by cases q)
  · rw [if_pos (Or.inl c), if_pos c, h2, e1 c]
    exact AnsM.mk (h.tw 1) (thw0 w 1) (fun q => by cases q)
theorem thr_v (FU : Nat) {w : NSt} {B : AB} (h : MI w B) {a b : Nat} (ha : a ≤ 1) (hb : b ≤ 1) {r : ANS} {K : Int32 × St → Option St} (h2 : ∀ x, K (nI 1, up x) = some (up x)) (e1 : a = 1 → r = (1, 0, B)) (e2 : a = 0 → b = 1 → r = (2, 0, B)) (e0 : a = 0 → b = 0 → MI (thw w 0) B → (thw w 0).1 0 = 0 → AnsV (K (nI 0, up (thw w 0))) r.1 r) : AnsV ((Mod_throwing FU (nI a) (nI b) (up w)).bind K) r.1 r := by
  rw [throwing_z FU w ha hb, Option.bind_some]
  rcases (show a = 0 ∨ a = 1 by omega) with c | c
  · rcases (show b = 0 ∨ b = 1 by omega) with d | d
    · rw [if_neg (by omega), if_neg (by omega), if_neg (by omega)]
      exact e0 c d (h.tw 0) (thw0 w 0)
    · rw [if_pos (Or.inr d), if_neg (by omega), if_pos d, h2, e2 c d]
      exact AnsV.mk (h.tw 2) (thw0 w 2)
  · rw [if_pos (Or.inl c), if_pos c, h2, e1 c]
    exact AnsV.mk (h.tw 1) (thw0 w 1)
theorem stp_m {FU : Nat} (hF : 140000 < FU) {w : NSt} {A : AB} (h : MI w A) (hd : A.dv = 2) (hT : TFA A.T) (hA : AI A 0) (hu : A.us < 2 ^ 28 ∧ inT A.T < 2 ^ 28) {n : Nat} (hn : n ≤ 10000) {k : AB → ANS} {K : Int32 × St → Option (Int32 × St)} (h2 : ∀ x, K (nI 1, up x) = some ((0 : Int32), up x)) (h0 : rsvC n A = 0 → ∀ y, MI y (rsvB n A) → y.1 0 = 0 → SE y w → AnsM (K (nI 0, up y)) (k (rsvB n A)).1 (k (rsvB n A))) : AnsM ((Mod_stops FU (nI n) (up w)).bind K) (rsvA n A k).1 (rsvA n A k) := by
  refine (stops_z hF h hd hT hn hA hu.1 hu.2).bd ?_
  rintro _ ⟨y, rfl, hy, y0, ye⟩
  unfold rsvA
  by_cases c : rsvC n A = 0
  · rw [if_pos c, if_pos c]
    exact h0 c y hy (y0.trans c) ye
  · rw [if_neg c, if_neg c, h2]
    exact AnsM.mk hy y0 (fun q => absurd q c)
theorem stp_v {FU : Nat} (hF : 140000 < FU) {w : NSt} {A : AB} (h : MI w A) (hd : A.dv = 2) (hT : TFA A.T) (hA : AI A 0) (hu : A.us < 2 ^ 28 ∧ inT A.T < 2 ^ 28) {n : Nat} (hn : n ≤ 10000) {k : AB → ANS} {K : Int32 × St → Option St} (h2 : ∀ x, K (nI 1, up x) = some (up x)) (h0 : rsvC n A = 0 → ∀ y, MI y (rsvB n A) → y.1 0 = 0 → SE y w → AnsV (K (nI 0, up y)) (k (rsvB n A)).1 (k (rsvB n A))) : AnsV ((Mod_stops FU (nI n) (up w)).bind K) (rsvA n A k).1 (rsvA n A k) := by
  refine (stops_z hF h hd hT hn hA hu.1 hu.2).bd ?_
  rintro _ ⟨y, rfl, hy, y0, ye⟩
  unfold rsvA
  by_cases c : rsvC n A = 0
  · rw [if_pos c, if_pos c]
    exact h0 c y hy (y0.trans c) ye
  · rw [if_neg c, if_neg c, h2]
    exact AnsV.mk hy y0
theorem n1 : ¬ nI 1 = (0 : Int32) := by decide
theorem AT.tl {A : AB} (h : AT A) (v : Nat) : AT (A.w_tl v) := ⟨h.t, h.o, h.f⟩
theorem AT.rsv {A : AB} (h : AT A) (n : Nat) : AT (rsvB n A) := by
  unfold rsvB
  repeat' split
  · exact ⟨h.t, h.o, h.f⟩
  · exact ⟨h.t, h.o, h.f⟩
  · unfold AB.ckp
    have := ckp_i A (inT A.T) 0
    obtain ⟨C, eC⟩ : ∃ C, C = A.ckpW (inT A.T) := ⟨_, rfl⟩
    rw [← eC] at this ⊢
    obtain ⟨c1, c2, c3, c4, c5⟩ := this
    exact ⟨by show TFA C.T; rw [c1]; exact h.t, by show TFA C.O; rw [c2]; exact h.t, fun i (q : C.S i = true) => by rw [c3] at q; exact Bool.noConfusion q⟩
  · unfold AB.ckp
    have := ckp_i A (inT A.T) 0
    obtain ⟨C, eC⟩ : ∃ C, C = A.ckpW (inT A.T) := ⟨_, rfl⟩
    rw [← eC] at this ⊢
    obtain ⟨c1, c2, c3, c4, c5⟩ := this
    exact ⟨by rw [c1]; exact h.t, by rw [c2]; exact h.t, fun i q => by rw [c3] at q; exact Bool.noConfusion q⟩
/-- tape, clean, faults, power, cut -/
theorem mo_tape (FU : Nat) {w : NSt} {A : AB} (h : MI w A) {k : Nat} (hk : k < 2 ^ 32) : AnsM (Mod_tape FU (nI k) (up w)) 0 (tapeA k A) := by
  unfold Mod_tape tapeA
  rw [nx_eq, show (0 : Int32) = nI 0 from rfl, up_I]
  have hx := h.tw 0
  have hx0 := thw0 w 0
  have t1 := hx.tl.1
  have t2 := hx.tl.2
  show AnsM (if nI k ≤ nI 0 then some ((up (thw w 0)).1 9, up (thw w 0)) else if (up (thw w 0)).1 9 ≤ nI k then some ((up (thw w 0)).1 9, up (thw w 0)) else nx (setI (up (thw w 0)) 9 (nI k)) fun g2 => some ((g2.1 9), g2)) 0 _
  obtain ⟨x, ex⟩ : ∃ x, x = thw w 0 := ⟨_, rfl⟩
  rw [← ex] at hx hx0 t1 ⊢
  rw [up1, t1]
  by_cases c : nI k ≤ nI 0
  · have c' : ¬ (0 < k ∧ k < A.tl) := fun q => by
      rw [nI_leI (by omega) (by decide)] at c
      omega
    rw [if_pos c, if_neg c']
    exact AnsM.mk hx hx0 (fun _ => rfl)
  · rw [if_neg c]
    have c' : 0 < k ∧ k < 2 ^ 31 := by
      have := mt (fun q : nI k < nI 1 => ?_) c
      · rw [sLt hk (by decide)] at this
        omega
      · rw [sLt hk (by decide)] at q
        rcases q with q | q
        · rw [show k = 0 by omega]; exact (by decide)
        · have : nI k < nI 0 := (sLt hk (by decide)).mpr (Or.inr q)
          exact Int32.le_of_lt this
    by_cases d : A.tl ≤ k
    · rw [if_pos (nI_le d (by omega)), if_neg (by omega)]
      exact AnsM.mk hx hx0 (fun _ => rfl)
    · rw [if_neg (nI_ge (by omega) (by omega)), nx_eq, up_I, if_pos (by omega), up1, zI1, if_pos rfl]
      refine AnsM.mk ?_ (by rw [zI1, if_neg (by decide)]; exact hx0) (fun _ => rfl)
      exact hx.io (fun j hj => by rw [zI1, if_neg (by omega)]) (fun a _ => rfl) hx.po.wd hx.dv hx.ms hx.ct hx.cd ⟨rfl, by show k ≤ 2060; omega⟩ hx.ol hx.tp hx.tb rfl rfl rfl rfl rfl
/-- sync, power, cut, clean and faults tell 'off' as 1 -/
def ofC (c : Nat) : Nat := if c = 2 then 1 else c
theorem pwo_m (FU : Nat) {w : NSt} {A : AB} (h : MI w A) {r : ANS} {c : Nat} {K : Int32 → St → Option (Int32 × St)} (h2 : K (1 : Int32) (up w) = some ((0 : Int32), up (thw w 1))) (h1 : A.dv = 2 → AnsM (K (0 : Int32) (up w)) c r) : AnsM (if (up w).1 2 = 0 then K (1 : Int32) (up w) else K (0 : Int32) (up w)) (if A.dv = 2 then c else 1) (pwrA A r) := by
  rw [up1, h.dv.2.2]
  unfold pwrA
  by_cases d : A.dv = 2
  · rw [if_pos d, if_neg n1, if_pos d, if_pos d]
    exact h1 d
  · rw [if_neg d, if_pos i00, if_neg d, if_neg d, h2]
    exact AnsM.mk (v := 0) (h.tw 1) (thw0 w 1) (fun q => by cases q)
theorem pwo_v (FU : Nat) {w : NSt} {A : AB} (h : MI w A) {r : ANS} {c : Nat} {K : Int32 → St → Option St} (h2 : K (1 : Int32) (up w) = some (up (thw w 1))) (h1 : A.dv = 2 → AnsV (K (0 : Int32) (up w)) c r) : AnsV (if (up w).1 2 = 0 then K (1 : Int32) (up w) else K (0 : Int32) (up w)) (if A.dv = 2 then c else 1) (pwrA A r) := by
  rw [up1, h.dv.2.2]
  unfold pwrA
  by_cases d : A.dv = 2
  · rw [if_pos d, if_neg n1, if_pos d, if_pos d]
    exact h1 d
  · rw [if_neg d, if_pos i00, if_neg d, if_neg d, h2]
    exact AnsV.mk (v := 0) (h.tw 1) (thw0 w 1)
theorem th10 (FU : Nat) (w : NSt) : Mod_throwing FU (1 : Int32) (0 : Int32) (up w) = some (nI 1, up (thw w 1)) := throwing_z FU w (a := 1) (b := 0) (by decide) (by decide)
theorem th00 (FU : Nat) (w : NSt) : Mod_throwing FU (0 : Int32) (0 : Int32) (up w) = some (nI 0, up (thw w 0)) := throwing_z FU w (a := 0) (b := 0) (by decide) (by decide)
theorem mo_clean (FU : Nat) {w : NSt} {A : AB} (h : MI w A) : AnsV (Mod_clean FU (up w)) (if A.dv = 2 then 0 else 1) (cleanA A) := by
  refine pwo_v FU h (K := Mod_clean_b13 FU) ?_ (fun _ => ?_)
  · unfold Mod_clean_b13
    rw [th10, Option.bind_some]
  · unfold Mod_clean_b13
    rw [th00, Option.bind_some]
    exact AnsV.mk (h.tw 0) (thw0 w 0)
theorem mo_faults (FU : Nat) {w : NSt} {A : AB} (h : MI w A) : AnsM (Mod_faults FU (up w)) (if A.dv = 2 then 0 else 1) (faultsA A) := by
  refine pwo_m FU h (K := Mod_faults_b13 FU) ?_ (fun _ => ?_)
  · unfold Mod_faults_b13
    rw [th10, Option.bind_some]
  · unfold Mod_faults_b13
    rw [th00, Option.bind_some]
    exact AnsM.mk (h.tw 0) (thw0 w 0) (fun _ => rfl)
theorem mo_power (FU : Nat) {w : NSt} {A : AB} (h : MI w A) : AnsV (Mod_power FU (up w)) (if A.dv = 2 then 0 else 1) (powerA A) := by
  refine pwo_v FU h (K := Mod_power_b13 FU) ?_ (fun hd => ?_)
  · unfold Mod_power_b13
    rw [th10, Option.bind_some, if_neg n1]
  · unfold Mod_power_b13
    rw [th00, Option.bind_some, if_pos i00, nx_eq, nx_eq, ← neg_I, show (0 : Int32) = nI 0 from rfl, up_I, up_I]
    have hx := h.tw 0
    obtain ⟨x, ex⟩ : ∃ x, x = thw w 0 := ⟨_, rfl⟩
    have hx0 := thw0 w 0
    rw [← ex] at hx hx0 ⊢
    have o : ∀ k, k ≠ 2 → k ≠ 8 → (zI (zI x 2 0) 8 neg1).1 k = x.1 k := fun k k2 k8 => by rw [zI1, if_neg k8, zI1, if_neg k2]
    refine AnsV.mk (hx.io (fun k hk => o k (by omega) (by omega)) (fun a _ => rfl) hx.po.wd ?_ hx.ms (Or.inl ⟨rfl, rfl⟩) (fun _ => rfl) hx.tl hx.ol hx.tp hx.tb rfl rfl rfl rfl rfl) ((o 0 (by decide) (by decide)).trans hx0)
    refine ⟨by show (1 : Nat) ≤ 2; decide, ?_, rfl⟩
    have := hx.dv.2.1
    rw [if_neg (by omega)] at this
    exact this
theorem mo_cut (FU : Nat) {w : NSt} {A : AB} (h : MI w A) {b : Nat} (hb : b < 2 ^ 32) : AnsV (Mod_cut FU (nI b) (up w)) (if A.dv = 2 then 0 else 1) (cutcA b A) := by
  refine pwo_v FU h (K := Mod_cut_b13 FU (nI b)) ?_ (fun hd => ?_)
  · unfold Mod_cut_b13
    rw [th10, Option.bind_some, if_neg n1]
  · unfold Mod_cut_b13
    rw [th00, Option.bind_some, if_pos i00]
    have hx := h.tw 0
    obtain ⟨x, ex⟩ : ∃ x, x = thw w 0 := ⟨_, rfl⟩
    have hx0 := thw0 w 0
    rw [← ex] at hx hx0 ⊢
    have o : ∀ k v, k ≠ 8 → (zI x 8 v).1 k = x.1 k := fun k v k8 => by rw [zI1, if_neg k8]
    by_cases c : b < 2 ^ 31
    · rw [if_pos (show (0 : Int32) ≤ nI b from nI_le (Nat.zero_le _) c), nx_eq, up_I, if_pos c]
      exact AnsV.mk (hx.io (fun k hk => o k _ (by omega)) (fun a _ => rfl) hx.po.wd hx.dv hx.ms (Or.inr ⟨rfl, c⟩) (fun q => absurd hd q) hx.tl hx.ol hx.tp hx.tb rfl rfl rfl rfl rfl) ((o 0 _ (by decide)).trans hx0)
    · have q : ¬ (0 : Int32) ≤ nI b := fun v => by
        have : nI b < nI 0 := (sLt hb (by decide)).mpr (Or.inr (by omega))
        exact Int32.lt_irrefl (Int32.lt_of_le_of_lt v this)
      rw [if_neg q, nx_eq, ← neg_I, up_I, if_neg c]
      exact AnsV.mk (hx.io (fun k hk => o k _ (by omega)) (fun a _ => rfl) hx.po.wd hx.dv hx.ms (Or.inl ⟨rfl, rfl⟩) (fun q => absurd hd q) hx.tl hx.ol hx.tp hx.tb rfl rfl rfl rfl rfl) ((o 0 _ (by decide)).trans hx0)
theorem mo_sync {FU : Nat} (hF : 140000 < FU) {w : NSt} {A : AB} (h : MI w A) (hT : A.dv = 2 → TFA A.T) : AnsM (Mod_sync FU (up w)) (if A.dv = 2 then (if A.ct = 1 then 2 else 0) else 1) (syncA A) := by
  refine pwo_m FU h (K := Mod_sync_b13 FU) ?_ (fun hd => ?_)
  · unfold Mod_sync_b13
    rw [th10, Option.bind_some, if_neg n1]
  · unfold Mod_sync_b13
    rw [th00, Option.bind_some, if_pos i00]
    refine (checkpoint_z hF (h.tw 0) hd (hT hd)).bd ?_
    rintro _ ⟨y, rfl, hy, y0, -⟩
    unfold cutA
    by_cases c : A.ct = 1
    · rw [if_pos c] at hy
      rw [if_pos c, if_pos c, if_pos c, if_pos i00]
      unfold Mod_sync_b36
      rw [show Mod_throwing FU (0 : Int32) (1 : Int32) (up y) = some (nI 1, up (thw y 2)) from throwing_z FU y (a := 0) (b := 1) (by decide) (by decide), Option.bind_some, if_neg n1]
      exact AnsM.mk (v := 0) (hy.tw 2) (thw0 y 2) (fun q => by cases q)
    · rw [if_neg c] at hy
      rw [if_neg c, if_neg c, if_neg c, if_neg n1]
      unfold Mod_sync_b36
      rw [th00, Option.bind_some, if_pos i00]
      refine AnsM.mk (hy.tw 0) (thw0 y 0) (fun _ => ?_)
      have := (hy.tw 0).ms.2.2.2.1
      show nI ((thw y 0).1 6) = _
      rw [this]
      rfl
