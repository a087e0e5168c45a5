/-! the model: mount -/
def MTI (y w : NSt) (A : AB) (i : Nat) : Prop := (PO y) ∧ (∀ k, k ≠ 7 → y.1 k = w.1 k) ∧ (y.1 7 = sm (fun j => if A.S (1 + j) = true then 1 else 0) (i - 1)) ∧ (∀ a, a ≤ 1 ∨ a = 6 ∨ a = 7 ∨ a = 9 ∨ 11 ≤ a → y.2 a = w.2 a) ∧ (∀ id, 1 ≤ id → id ≤ 250 → (y.2 2 id = if id < i then A.O.kd id else A.T.kd id) ∧ y.2 2 (251 + id) = A.O.kd id) ∧ (∀ id, 1 ≤ id → id ≤ 250 → (id < i → A.O.kd id = 1 → y.2 4 id = A.O.lk id) ∧ (A.O.kd id = 1 → y.2 4 (251 + id) = A.O.lk id)) ∧ (∀ id, 1 ≤ id → id ≤ 250 → (id < i → (A.O.kd id = 1 → PV y 0 id (A.R.fil id)) ∧ (A.O.kd id ≠ 1 → PN0 y 0 id)) ∧ (i ≤ id → A.T.kd id ≠ 1 → PN0 y 0 id)) ∧ (∀ id, 1 ≤ id → id ≤ 250 → (A.O.kd id = 1 → PV y 1 id (A.O.fil id)) ∧ (A.O.kd id ≠ 1 → PN0 y 1 id)) ∧ (∀ id, 1 ≤ id → id ≤ 250 → (A.S id = true → PV y 2 id (A.F id)) ∧ (A.S id ≠ true → PN0 y 2 id))
theorem MTI.po {y w : NSt} {A : AB} {i : Nat} (h9 : MTI y w A i) : PO y := h9.1
theorem MTI.sc {y w : NSt} {A : AB} {i : Nat} (h9 : MTI y w A i) : ∀ k, k ≠ 7 → y.1 k = w.1 k := h9.2.1
theorem MTI.s7 {y w : NSt} {A : AB} {i : Nat} (h9 : MTI y w A i) : y.1 7 = sm (fun j => if A.S (1 + j) = true then 1 else 0) (i - 1) := h9.2.2.1
theorem MTI.ar {y w : NSt} {A : AB} {i : Nat} (h9 : MTI y w A i) : ∀ a, a ≤ 1 ∨ a = 6 ∨ a = 7 ∨ a = 9 ∨ 11 ≤ a → y.2 a = w.2 a := h9.2.2.2.1
theorem MTI.kd {y w : NSt} {A : AB} {i : Nat} (h9 : MTI y w A i) : ∀ id, 1 ≤ id → id ≤ 250 → (y.2 2 id = if id < i then A.O.kd id else A.T.kd id) ∧ y.2 2 (251 + id) = A.O.kd id := h9.2.2.2.2.1
theorem MTI.lk {y w : NSt} {A : AB} {i : Nat} (h9 : MTI y w A i) : ∀ id, 1 ≤ id → id ≤ 250 → (id < i → A.O.kd id = 1 → y.2 4 id = A.O.lk id) ∧ (A.O.kd id = 1 → y.2 4 (251 + id) = A.O.lk id) := h9.2.2.2.2.2.1
theorem MTI.f0 {y w : NSt} {A : AB} {i : Nat} (h9 : MTI y w A i) : ∀ id, 1 ≤ id → id ≤ 250 → (id < i → (A.O.kd id = 1 → PV y 0 id (A.R.fil id)) ∧ (A.O.kd id ≠ 1 → PN0 y 0 id)) ∧ (i ≤ id → A.T.kd id ≠ 1 → PN0 y 0 id) := h9.2.2.2.2.2.2.1
theorem MTI.f1 {y w : NSt} {A : AB} {i : Nat} (h9 : MTI y w A i) : ∀ id, 1 ≤ id → id ≤ 250 → (A.O.kd id = 1 → PV y 1 id (A.O.fil id)) ∧ (A.O.kd id ≠ 1 → PN0 y 1 id) := h9.2.2.2.2.2.2.2.1
theorem MTI.f2 {y w : NSt} {A : AB} {i : Nat} (h9 : MTI y w A i) : ∀ id, 1 ≤ id → id ≤ 250 → (A.S id = true → PV y 2 id (A.F id)) ∧ (A.S id ≠ true → PN0 y 2 id) := h9.2.2.2.2.2.2.2.2
theorem mt145 (FU : Nat) {w : NSt} {A : AB} (K : Int32 → St → Option (Int32 × St)) (Q : Int32 × St → Prop) {i : Nat} (i1 : 1 ≤ i) (i2 : i ≤ 250) (hK : ∀ z, MTI z w A (i + 1) → Ev (K (nI (i + 1)) (up z)) Q) {y : NSt} (h : MTI y w A i) {v : NSt} (hv : PO v) (v1 : v.1 = y.1) (va : ∀ a, a ≤ 1 ∨ a = 6 ∨ a = 7 ∨ a = 9 ∨ 11 ≤ a → v.2 a = y.2 a) (vb : ∀ a, a = 2 ∨ a = 3 ∨ a = 4 ∨ a = 5 → ∀ j, j ≠ i → v.2 a j = y.2 a j) (v8 : ∀ l id p, l ≤ 2 → id ≤ 250 → p < 391 → ¬ (l = 0 ∧ id = i) → v.2 8 (pcN l id p) = y.2 8 (pcN l id p)) (vk : v.2 2 i = A.O.kd i) (vl : A.O.kd i = 1 → v.2 4 i = A.O.lk i) (vf : (A.O.kd i = 1 → PV v 0 i (A.R.fil i)) ∧ (A.O.kd i ≠ 1 → PN0 v 0 i)) {b : Nat} (hb : b = if A.S i = true then 1 else 0) : Ev (Mod_mount_b145 FU K (nI i) (nI b) (up v)) Q := by
  have e9 := va 9 (by omega)
  have key : ∀ u, u = zI v 7 (v.1 7 + b) → Ev (K (nI (i + 1)) (up u)) Q := fun u eu => by
    have u1 : ∀ k, k ≠ 7 → u.1 k = y.1 k := fun k hk => by rw [eu, zI1, if_neg hk, v1]
    have u2 : u.2 = v.2 := by rw [eu]; rfl
    refine hK u ⟨hv.keep (by rw [u1 11 (by decide), ← v1]; exact hv.se) (by rw [u2]) (by rw [u2]) (fun a j => by rw [u2]; exact hv.wd a j), fun k hk => by rw [u1 k hk]; exact h.sc k hk, ?_, fun a q => by rw [u2, va a q]; exact h.ar a q, fun id j1 j2 => ?_, fun id j1 j2 => ?_, fun id j1 j2 => ?_, fun id j1 j2 => ?_, fun id j1 j2 => ?_⟩
    · rw [eu, zI1, if_pos rfl, v1, h.s7, hb, show i + 1 - 1 = (i - 1) + 1 by omega]
      show _ = sm (fun j => if A.S (1 + j) = true then 1 else 0) (i - 1) + (if A.S (1 + (i - 1)) = true then 1 else 0)
      rw [show 1 + (i - 1) = i by omega]
    · obtain ⟨a, c⟩ := h.kd id j1 j2
      rw [u2, vb 2 (by omega) (251 + id) (by omega)]
      refine ⟨?_, c⟩
      by_cases e : id = i
      · rw [e, vk, if_pos (by omega)]
      · rw [vb 2 (by omega) id e, a]
        by_cases d : id < i
        · rw [if_pos d, if_pos (by omega)]
        · rw [if_neg d, if_neg (by omega)]
    · obtain ⟨a, c⟩ := h.lk id j1 j2
      rw [u2, vb 4 (by omega) (251 + id) (by omega)]
      refine ⟨fun q k => ?_, c⟩
      by_cases e : id = i
      · rw [e] at k ⊢; exact vl k
      · rw [vb 4 (by omega) id e]; exact a (by omega) k
    · by_cases e : id = i
      · rw [e]
        refine ⟨fun _ => ⟨fun q => ?_, fun q p hp => ?_⟩, fun q => by omega⟩
        · exact (vf.1 q).keep (by rw [u2]) (by rw [u2]) (by rw [u2]) (by rw [u2])
        · rw [u2]; exact vf.2 q p hp
      · obtain ⟨a, c⟩ := h.f0 id j1 j2
        have e8 : ∀ p, p < 391 → u.2 8 (pcN 0 id p) = y.2 8 (pcN 0 id p) := fun p hp => by rw [u2]; exact v8 0 id p (by decide) j2 hp (by omega)
        have e3 : u.2 3 (251 * 0 + id) = y.2 3 (251 * 0 + id) := by rw [u2]; exact vb 3 (by omega) _ (by omega)
        have e5 : u.2 5 (251 * 0 + id) = y.2 5 (251 * 0 + id) := by rw [u2]; exact vb 5 (by omega) _ (by omega)
        exact ⟨fun q => ⟨fun k => ((a (by omega)).1 k).mv e3 e5 e8 (by rw [u2, e9]), fun k => ((a (by omega)).2 k).mv e8⟩, fun q k => (c (by omega) k).mv e8⟩
    · have e8 : ∀ p, p < 391 → u.2 8 (pcN 1 id p) = y.2 8 (pcN 1 id p) := fun p hp => by rw [u2]; exact v8 1 id p (by decide) j2 hp (by omega)
      have e3 : u.2 3 (251 * 1 + id) = y.2 3 (251 * 1 + id) := by rw [u2]; exact vb 3 (by omega) _ (by omega)
      have e5 : u.2 5 (251 * 1 + id) = y.2 5 (251 * 1 + id) := by rw [u2]; exact vb 5 (by omega) _ (by omega)
      exact ⟨fun q => ((h.f1 id j1 j2).1 q).mv e3 e5 e8 (by rw [u2, e9]), fun q => ((h.f1 id j1 j2).2 q).mv e8⟩
    · have e8 : ∀ p, p < 391 → u.2 8 (pcN 2 id p) = y.2 8 (pcN 2 id p) := fun p hp => by rw [u2]; exact v8 2 id p (by decide) j2 hp (by omega)
      have e3 : u.2 3 (251 * 2 + id) = y.2 3 (251 * 2 + id) := by rw [u2]; exact vb 3 (by omega) _ (by omega)
      have e5 : u.2 5 (251 * 2 + id) = y.2 5 (251 * 2 + id) := by rw [u2]; exact vb 5 (by omega) _ (by omega)
      exact ⟨fun q => ((h.f2 id j1 j2).1 q).mv e3 e5 e8 (by rw [u2, e9]), fun q => ((h.f2 id j1 j2).2 q).mv e8⟩
  unfold Mod_mount_b145 Mod_mount_b159
  have e0 : ∀ c : Nat, b = c → nx (setI (up v) 7 ((up v).1 7 + nI c)) (fun g11 => K (nI i + (1 : Int32)) g11) = K (nI (i + 1)) (up (zI v 7 (v.1 7 + b))) := fun c e => by
    rw [nx_eq, up1, nI_add, up_I, nI_1, e]
  by_cases c : A.S i = true
  · have hb1 : b = 1 := by rw [hb, if_pos c]
    rw [if_neg (show ¬ nI b = (0 : Int32) by rw [hb1]; decide)]
    have := e0 1 hb1
    rw [show (1 : Int32) = nI 1 from rfl] at this ⊢
    rw [this]
    exact key _ rfl
  · have hb0 : b = 0 := by rw [hb, if_neg c]
    rw [if_pos (show nI b = (0 : Int32) by rw [hb0]; rfl)]
    have := e0 0 hb0
    rw [show nI 0 = (0 : Int32) from rfl] at this
    rw [this]
    exact key _ rfl
theorem mt88 {FU : Nat} (hF : 140000 < FU) {w : NSt} {A : AB} (hR : TFA A.R) (hsk : ∀ i, A.S i = true → A.O.kd i = 1) (K : Int32 → St → Option (Int32 × St)) (Q : Int32 × St → Prop) {i : Nat} (i1 : 1 ≤ i) (i2 : i ≤ 250) (hK : ∀ z, MTI z w A (i + 1) → Ev (K (nI (i + 1)) (up z)) Q) {y : NSt} (h : MTI y w A i) {u : NSt} (hu : PO u) (u1 : u.1 = y.1) (ua : ∀ a, a ≤ 1 ∨ a = 6 ∨ a = 7 ∨ a = 9 ∨ 11 ≤ a → u.2 a = y.2 a) (ub : ∀ a, a = 2 ∨ a = 3 ∨ a = 4 ∨ a = 5 → ∀ j, j ≠ i → u.2 a j = y.2 a j) (u8 : ∀ l id p, l ≤ 2 → id ≤ 250 → p < 391 → ¬ (l = 0 ∧ id = i) → u.2 8 (pcN l id p) = y.2 8 (pcN l id p)) (un : PN0 u 0 i) {b : Nat} (hb : b = if A.S i = true then 1 else 0) : Ev (Mod_mount_b88 FU K (nI i) (nI b) (up u)) Q := by
  obtain ⟨k1, k2⟩ := h.kd i i1 i2
  have e2 : u.2 2 (251 + i) = A.O.kd i := by rw [ub 2 (by omega) _ (by omega), k2]
  have hw2 := hu.wd 2 (251 + i)
  rw [e2] at hw2
  unfold Mod_mount_b88
  rw [show (251 : Int32) + nI i = nI (251 + i) from nI_add 251 i, rdA_z u 2 (by omega) (by decide), Option.bind_some, e2, wrA_z u 2 (by omega) (by decide), Option.bind_some, rdA_z _ 4 (by omega) (by decide), Option.bind_some, wrA_z _ 4 (by omega) (by decide), Option.bind_some, rdA_z _ 2 (by omega) (by decide), Option.bind_some]
  obtain ⟨t, et⟩ : ∃ t, t = zA (zA u 2 i (A.O.kd i)) 4 i ((zA u 2 i (A.O.kd i)).2 4 (251 + i)) := ⟨_, rfl⟩
  rw [← et]
  have ta : ∀ a, a ≠ 2 → a ≠ 4 → t.2 a = u.2 a := fun a a2 a4 => by rw [et, zA2, if_neg a4, zA2, if_neg a2]
  have t2 : t.2 2 = va_up (u.2 2) i (A.O.kd i) := by rw [et, zA2, if_neg (by decide), zA2, if_pos rfl]
  have t4 : t.2 4 = va_up (u.2 4) i (u.2 4 (251 + i)) := by rw [et, zA2, if_pos rfl, zA2 u 2 i _ 4, if_neg (by decide)]
  have t1 : t.1 = u.1 := by rw [et]; rfl
  have ht : PO t := hu.up (by rw [t1]) (ta 8 (by decide) (by decide)) (ta 10 (by decide) (by decide)) (by rw [et]; exact zA_wd (zA_wd hu.wd _ _ hw2) _ _ (by rw [zA2, if_neg (by decide)]; exact hu.wd _ _))
  have tb : ∀ a, a = 2 ∨ a = 3 ∨ a = 4 ∨ a = 5 → ∀ j, j ≠ i → t.2 a j = y.2 a j := fun a q j hj => by
    rw [et, zA_ne _ _ _ _ _ _ hj, zA_ne _ _ _ _ _ _ hj]; exact ub a q j hj
  have tk : t.2 2 i = A.O.kd i := by rw [t2, va_up_self]
  have tl : A.O.kd i = 1 → t.2 4 i = A.O.lk i := fun q => by
    rw [t4, va_up_self, ub 4 (by omega) _ (by omega)]
    exact (h.lk i i1 i2).2 q
  have taa : ∀ a, a ≤ 1 ∨ a = 6 ∨ a = 7 ∨ a = 9 ∨ 11 ≤ a → t.2 a = y.2 a := fun a q => by rw [ta a (by omega) (by omega)]; exact ua a q
  have t8 : ∀ l id p, l ≤ 2 → id ≤ 250 → p < 391 → ¬ (l = 0 ∧ id = i) → t.2 8 (pcN l id p) = y.2 8 (pcN l id p) := fun l id p a b c d => by rw [ta 8 (by decide) (by decide)]; exact u8 l id p a b c d
  rw [tk]
  by_cases c : A.O.kd i = 1
  · rw [if_pos (show nI (A.O.kd i) = (1 : Int32) by rw [c]; rfl)]
    have kR : A.R.kd i = 1 := c
    have fin : ∀ (l : Nat), (l = 1 ∨ l = 2) → PV t l i (A.R.fil i) → Ev (Mod_mount_b141 FU K (nI i) (nI b) (nI l) (nI i) (up t)) Q := fun l hl hp => by
      unfold Mod_mount_b141
      rw [show (0 : Int32) = nI 0 from rfl]
      have h5 : t.2 5 (251 * l + i) ≤ 1 := by rw [hp.sml]; exact (hR.fv i kR).smb
      refine (copyFile_z hF ht (fl := l) (tl := 0) (by omega) (by decide) (by omega) i2 h5).bd ?_
      rintro _ ⟨v, rfl, v1, v2, v3, v4, v5, v6⟩
      have z0 : 251 * 0 + i = i := by omega
      rw [z0] at v4 v5
      refine mt145 FU K Q i1 i2 hK h v1 (by rw [v2, t1, u1]) (fun a q => by rw [v3 a (by omega) (by omega) (by omega) (by omega)]; exact taa a q) (fun a q j hj => ?_) (fun l' id p hl' hid hp' hne => ?_) (by rw [v3 2 (by decide) (by decide) (by decide) (by decide)]; exact tk) (fun q => by rw [v3 4 (by decide) (by decide) (by decide) (by decide)]; exact tl q) ⟨fun _ => hp.mv (by rw [z0, v4, va_up_self]) (by rw [z0, v5, va_up_self]) (fun p hp' => ?_) (v3 9 (by decide) (by decide) (by decide) (by decide)), fun q => absurd c q⟩ hb
      · have : v.2 a j = t.2 a j := by
          rcases q with q | q | q | q
          · rw [q, v3 2 (by decide) (by decide) (by decide) (by decide)]
          · rw [q, v4, va_up_ne _ _ hj]
          · rw [q, v3 4 (by decide) (by decide) (by decide) (by decide)]
          · rw [q, v5, va_up_ne _ _ hj]
        rw [this]; exact tb a q j hj
      · rw [v6, if_neg (fun q => hne ?_)]
        · exact t8 l' id p hl' hid hp' hne
        · unfold pcN at q
          omega
      · rw [v6, if_pos (by unfold pcN; omega), show pcN 0 i p - pcN 0 i 0 = p by unfold pcN; omega]
    have mvl : ∀ l f, (l = 1 ∨ l = 2) → PV y l i f → PV t l i f := fun l f hl hp => hp.mv (tb 3 (by omega) _ (by omega)) (tb 5 (by omega) _ (by omega)) (fun p hp' => t8 l i p (by omega) i2 hp' (by omega)) (taa 9 (by omega))
    by_cases d : A.S i = true
    · have hb1 : b = 1 := by rw [hb, if_pos d]
      rw [if_neg (show ¬ nI b = (0 : Int32) by rw [hb1]; decide)]
      refine fin 2 (Or.inr rfl) (mvl 2 _ (Or.inr rfl) ?_)
      have : A.R.fil i = A.F i := if_pos d
      rw [this]
      exact (h.f2 i i1 i2).1 d
    · have hb0 : b = 0 := by rw [hb, if_neg d]
      rw [if_pos (show nI b = (0 : Int32) by rw [hb0]; rfl)]
      refine fin 1 (Or.inl rfl) (mvl 1 _ (Or.inl rfl) ?_)
      have : A.R.fil i = A.O.fil i := if_neg d
      rw [this]
      exact (h.f1 i i1 i2).1 c
  · rw [if_neg (fun v : nI (A.O.kd i) = (1 : Int32) => c ((eqN hw2 (c := 1) (by decide)).mp v))]
    exact mt145 FU K Q i1 i2 hK h ht (by rw [t1, u1]) taa tb t8 tk tl ⟨fun q => absurd q c, fun _ p hp => by rw [ta 8 (by decide) (by decide)]; exact un p hp⟩ hb
theorem mt36 {FU : Nat} (hF : 140000 < FU) {w : NSt} {A : AB} (hR : TFA A.R) (hsk : ∀ i, A.S i = true → A.O.kd i = 1) (hsy : ∀ id, 1 ≤ id → id ≤ 250 → w.2 6 id = if A.S id = true then 1 else 0) (Q : Int32 × St → Prop) (hQ : ∀ z, MTI z w A 251 → Ev (nx (setI (up z) 12 ((up z).1 13)) fun g20 => Mod_mount_b179 FU FU (0 : Int32) g20) Q) : ∀ (m i q : Nat) (y : NSt), 1 ≤ i → i + m = 251 → m < q → MTI y w A i → Ev (Mod_mount_b36 FU q (nI i) (up y)) Q := by
  intro m
  induction m with
  | zero =>
    intro i q y i1 h1 h2 hy
    obtain ⟨q, rfl⟩ : ∃ q9, q = q9 + 1 := ⟨q - 1, by omega⟩
    have h1 : i = 251 := h1
    subst h1
    unfold Mod_mount_b36
    rw [if_pos (show (250 : Int32) < nI 251 by decide)]
    exact hQ y hy
  | succ m ih =>
    intro i q y i1 h1 h2 hy
    obtain ⟨q, rfl⟩ : ∃ q9, q = q9 + 1 := ⟨q - 1, by omega⟩
    have i2 : i ≤ 250 := by omega
    have go : ∀ z, MTI z w A (i + 1) → Ev (Mod_mount_b36 FU q (nI (i + 1)) (up z)) Q := fun z hz => ih (i + 1) q z (by omega) (by omega) (by omega) hz
    obtain ⟨k1, k2⟩ := hy.kd i i1 i2
    rw [if_neg (Nat.lt_irrefl i)] at k1
    have hw2 := hy.po.wd 2 i
    rw [k1] at hw2
    have e6 : y.2 6 i = if A.S i = true then 1 else 0 := by rw [hy.ar 6 (by omega)]; exact hsy i i1 i2
    have fin : ∀ b, b = (if A.S i = true then 1 else 0) → Ev (Mod_mount_b71 FU (Mod_mount_b36 FU q) (nI i) (nI b) (up y)) Q := fun b hb => by
      unfold Mod_mount_b71
      rw [rdA_z y 2 (by omega) (by decide), Option.bind_some, k1]
      by_cases c : A.T.kd i = 1
      · rw [if_pos (show nI (A.T.kd i) = (1 : Int32) by rw [c]; rfl), show (0 : Int32) = nI 0 from rfl]
        refine (drop_z hF hy.po (l := 0) (by decide) i2).bd ?_
        rintro _ ⟨u, rfl, u1, u2, u3, u4, u5, u6⟩
        rw [show 251 * 0 + i = i by omega] at u4 u5
        refine mt88 hF hR hsk _ Q i1 i2 go hy u1 u2 (fun a q => u3 a (by omega) (by omega) (by omega) (by omega)) (fun a q j hj => ?_) (fun l id p hl hid hp hne => ?_) (fun p hp => ?_) hb
        · rcases q with q | q | q | q
          · rw [q, u4, va_up_ne _ _ hj]
          · rw [q, u5, va_up_ne _ _ hj]
          · rw [q, u3 4 (by decide) (by decide) (by decide) (by decide)]
          · rw [q, u3 5 (by decide) (by decide) (by decide) (by decide)]
        · rw [u6, if_neg (fun q => hne ?_)]
          unfold pcN at q
          omega
        · rw [u6, if_pos (by unfold pcN; omega)]
      · rw [if_neg (fun v : nI (A.T.kd i) = (1 : Int32) => c ((eqN hw2 (c := 1) (by decide)).mp v))]
        exact mt88 hF hR hsk _ Q i1 i2 go hy hy.po rfl (fun _ _ => rfl) (fun _ _ _ _ => rfl) (fun _ _ _ _ _ _ _ => rfl) ((hy.f0 i i1 i2).2 (Nat.le_refl _) c) hb
    unfold Mod_mount_b36 Mod_mount_b70
    rw [if_neg (show ¬ (250 : Int32) < nI i from fun v => by
      rw [show (250 : Int32) = nI 250 from rfl, nI_ltI (by decide) (by omega)] at v
      omega), rdA_z y 6 (by omega) (by decide), Option.bind_some, e6]
    by_cases c : A.S i = true
    · rw [if_pos c, if_neg n1, show (251 : Int32) + nI i = nI (251 + i) from nI_add 251 i, rdA_z y 2 (by omega) (by decide), Option.bind_some, k2, hsk i c, if_pos (show nI 1 = (1 : Int32) from rfl)]
      exact fin 1 (by rw [if_pos c])
    · rw [if_neg c, if_pos i00]
      exact fin 0 (by rw [if_neg c])
