/-! the model: names and entries -/
theorem moName_b {FU : Nat} {w : NSt} {A : AB} (h : MI w A) {fr n : Nat} (hfr : fr + n ≤ 2060) : ∀ (m i q c : Nat), i + m = n → m < q → (c = 1 ∧ (∀ j, j < i → A.tp (fr + j) ≠ 0 ∧ A.tp (fr + j) ≠ 47) ∨ c = 0 ∧ ¬ ∀ j, j < i → A.tp (fr + j) ≠ 0 ∧ A.tp (fr + j) ≠ 47) → ∃ c', Mod_isName_b27 FU q (nI fr) (nI n) (nI c) (nI (fr + i)) (up w) = some (nI c') ∧ (c' = 1 ∧ (∀ j, j < n → A.tp (fr + j) ≠ 0 ∧ A.tp (fr + j) ≠ 47) ∨ c' = 0 ∧ ¬ ∀ j, j < n → A.tp (fr + j) ≠ 0 ∧ A.tp (fr + j) ≠ 47) := by
  intro m
  induction m with
  | zero =>
    intro i q c h1 h2 hc
    obtain ⟨q, rfl⟩ : ∃ q9, q = q9 + 1 := ⟨q - 1, by omega⟩
    have h1 : i = n := h1
    subst h1
    unfold Mod_isName_b27
    refine ⟨c, ?_, hc⟩
    rw [nI_add, if_pos (nI_le (Nat.le_refl _) (by omega)), if_pos (by
      rcases hc with ⟨e, -⟩ | ⟨e, -⟩
      · rw [e]; exact Or.inr rfl
      · rw [e]; exact Or.inl rfl)]
  | succ m ih =>
    intro i q c h1 h2 hc
    obtain ⟨q, rfl⟩ : ∃ q9, q = q9 + 1 := ⟨q - 1, by omega⟩
    unfold Mod_isName_b27 Mod_isName_b65 Mod_isName_b66
    obtain ⟨t1, t2⟩ := h.tp (fr + i) (by omega)
    have step : ∀ (c' : Nat), (c' = 1 ∧ (∀ j, j < i + 1 → A.tp (fr + j) ≠ 0 ∧ A.tp (fr + j) ≠ 47) ∨ c' = 0 ∧ ¬ ∀ j, j < i + 1 → A.tp (fr + j) ≠ 0 ∧ A.tp (fr + j) ≠ 47) → ∃ c9, (Mod_isName_b27 FU q) (nI fr) (nI n) (nI c') (nI (fr + i) + 1) (up w) = some (nI c9) ∧ (c9 = 1 ∧ (∀ j, j < n → A.tp (fr + j) ≠ 0 ∧ A.tp (fr + j) ≠ 47) ∨ c9 = 0 ∧ ¬ ∀ j, j < n → A.tp (fr + j) ≠ 0 ∧ A.tp (fr + j) ≠ 47) := fun c' h' => by
      rw [nI_1, show fr + i + 1 = fr + (i + 1) by omega]
      exact ih (i + 1) q c' (by omega) (by omega) h'
    rw [nI_add, if_neg (nI_ge (by omega) (by omega))]
    have bad : (¬ (A.tp (fr + i) ≠ 0 ∧ A.tp (fr + i) ≠ 47)) → ∃ c9, (Mod_isName_b27 FU q) (nI fr) (nI n) (0 : Int32) (nI (fr + i) + 1) (up w) = some (nI c9) ∧ (c9 = 1 ∧ (∀ j, j < n → A.tp (fr + j) ≠ 0 ∧ A.tp (fr + j) ≠ 47) ∨ c9 = 0 ∧ ¬ ∀ j, j < n → A.tp (fr + j) ≠ 0 ∧ A.tp (fr + j) ≠ 47) := fun w => step 0 (Or.inr ⟨rfl, fun v => w (v i (by omega))⟩)
    rcases hc with ⟨rfl, hc⟩ | ⟨rfl, hc⟩
    · rw [if_neg (show ¬ nI 1 = (0 : Int32) by decide), rdA_z w 0 (by omega) (by decide), Option.bind_some, t1]
      by_cases c0 : A.tp (fr + i) = 0
      · rw [if_pos (show nI (sxN (A.tp (fr + i))) = (0 : Int32) by rw [c0]; rfl)]
        exact bad (fun v => v.1 c0)
      · rw [if_neg (ne0_I (sxN_lt t2) (fun v => c0 (by rw [← sxN_md t2, v]))), Option.bind_some]
        by_cases c1 : A.tp (fr + i) = 47
        · rw [if_pos (show nI (sxN (A.tp (fr + i))) = (47 : Int32) by rw [c1]; rfl)]
          exact bad (fun v => v.2 c1)
        · rw [if_neg (fun v : nI (sxN (A.tp (fr + i))) = (47 : Int32) => c1 (by
            have := (eqN (sxN_lt t2) (c := 47) (by decide)).mp v
            rw [← sxN_md t2, this]))]
          exact step 1 (Or.inl ⟨rfl, fun j hj => by
            by_cases d : j = i
            · rw [d]; exact ⟨c0, c1⟩
            · exact hc j (by omega)⟩)
    · rw [if_pos i00]
      exact step 0 (Or.inr ⟨rfl, fun v => hc (fun j hj => v j (by omega))⟩)
theorem moName_z {FU : Nat} (hF : 140000 < FU) {w : NSt} {A : AB} (h : MI w A) {fr n : Nat} (hfr : fr ≤ 20) (hn : n < 2 ^ 32) : Mod_isName FU (nI fr) (nI n) (up w) = some (nI (if nmOk A.tp A.tl fr n = true then 1 else 0)) := by
  obtain ⟨tl1, tl2⟩ := h.tl
  unfold Mod_isName
  rw [show (1 : Int32) = nI 1 from rfl, show (20 : Int32) = nI 20 from rfl, in_z FU _ hn (by decide) (by decide), Option.bind_some]
  have no : ¬ (1 ≤ n ∧ n ≤ 20 ∧ fr + n ≤ A.tl ∧ ∀ i, i < n → A.tp (fr + i) ≠ 0 ∧ A.tp (fr + i) ≠ 47) → nmOk A.tp A.tl fr n = false := fun q => decide_eq_false q
  by_cases c : 1 ≤ n ∧ n ≤ 20
  · rw [if_pos c, if_neg (show ¬ nI 1 = (0 : Int32) by decide), nI_add, up1, tl1]
    by_cases d : fr + n ≤ A.tl
    · rw [if_pos (nI_le d (by omega))]
      obtain ⟨c', e1, e2⟩ := moName_b (FU := FU) h (fr := fr) (n := n) (by omega) n 0 FU 1 (by omega) (by omega) (Or.inl ⟨rfl, fun j hj => by omega⟩)
      rw [Nat.add_zero] at e1
      rw [e1]
      rcases e2 with ⟨rfl, e2⟩ | ⟨rfl, e2⟩
      · rw [if_pos (show nmOk A.tp A.tl fr n = true from decide_eq_true ⟨c.1, c.2, d, e2⟩)]
      · rw [no (fun q => e2 q.2.2.2), if_neg (by decide)]
    · rw [if_neg (nI_ge (by omega) (by omega)), no (fun q => d q.2.2.1), if_neg (by decide)]; rfl
  · rw [if_neg c, if_pos i00, no (fun q => c ⟨q.1, q.2.1⟩), if_neg (by decide)]; rfl
/-! counting names -/
theorem EN.cnt {w : NSt} {bd bi bl bn E : Nat} {ent : Nat → Nat → Nat} (h : EN w bd bi bl bn E ent) (d : Nat) : sm (fun k => if w.2 bd k = d then 1 else 0) E = nmc (ent d) := by
  unfold nmc
  rw [sm_congr (f := fun n => if ent d n = 0 then 0 else 1) (g := fun n => if ent d n ≠ 0 then 1 else 0) (fun n _ => if01)]
  refine cnt_inj (f := nmK w bl bn) (p := fun k => w.2 bd k = d) (q := fun n => ent d n ≠ 0) (fun k hk q => ?_) (fun n _ q => ?_) (fun k k' hk hk' q q' e => h.dis k k' hk hk' (by rw [show w.2 bd k = d from q, show w.2 bd k' = d from q']) e)
  · obtain ⟨e1, e2, -⟩ := h.en k hk
    have q : w.2 bd k = d := q
    rw [q] at e1
    exact ⟨NL_lt (h.nl k hk), by rw [e1]; exact e2⟩
  · obtain ⟨k, k1, k2, k3⟩ := h.all d n q
    exact ⟨k, k1, k2, k3⟩
theorem namesOf_b (FU : Nat) {w : NSt} (hE : w.1 12 ≤ 2400) (hw : ∀ a i, w.2 a i < 2 ^ 32) {d : Nat} (hd : d < 2 ^ 32) : ∀ (m k q c : Nat), k + m = w.1 12 → m < q → Mod_namesOf_b4 FU q (nI d) (nI c) (nI k) (up w) = some (nI (c + sm (fun t => if w.2 11 (k + t) = d then 1 else 0) m)) := by
  intro m
  induction m with
  | zero =>
    intro k q c h1 h2
    obtain ⟨q, rfl⟩ : ∃ q9, q = q9 + 1 := ⟨q - 1, by omega⟩
    have h1 : k = w.1 12 := h1
    unfold Mod_namesOf_b4
    rw [up1, ← h1, if_pos (nI_le (Nat.le_refl _) (by omega))]
    rfl
  | succ m ih =>
    intro k q c h1 h2
    obtain ⟨q, rfl⟩ : ∃ q9, q = q9 + 1 := ⟨q - 1, by omega⟩
    unfold Mod_namesOf_b4 Mod_namesOf_b28
    have e : sm (fun t => if w.2 11 (k + t) = d then 1 else 0) (m + 1) = (if w.2 11 k = d then 1 else 0) + sm (fun t => if w.2 11 (k + 1 + t) = d then 1 else 0) m := by
      rw [Nat.add_comm m 1, sm_cut]
      congr 1
      · exact Nat.zero_add _
      · exact sm_congr (fun t _ => by rw [show k + (1 + t) = k + 1 + t by omega])
    rw [e, up1, if_neg (nI_ge (by omega) (by omega)), rdA_z w 11 (by omega) (by decide), Option.bind_some]
    by_cases c1 : w.2 11 k = d
    · rw [if_pos (by rw [c1]), if_pos c1, nI_1, nI_1, ih (k + 1) q (c + 1) (by omega) (by omega), Nat.add_assoc]
    · rw [if_neg (fun v => c1 ((nI_inj (hw _ _) hd).mp v)), if_neg c1, show (0 : Int32) = nI 0 from rfl, nI_add, nI_1, ih (k + 1) q (c + 0) (by omega) (by omega), Nat.zero_add, Nat.add_zero]
theorem namesOf_z {FU : Nat} (hF : 140000 < FU) {w : NSt} {A : AB} (h : MI w A) {d : Nat} (hd : d < 2 ^ 32) : Mod_namesOf FU (nI d) (up w) = some (nI (nmc (A.T.ent d))) := by
  unfold Mod_namesOf
  have hE := h.en.le
  have := namesOf_b FU hE h.po.wd hd (w.1 12) 0 FU 0 (by omega) (by omega)
  rw [sm_congr (g := fun k => if w.2 11 k = d then 1 else 0) (fun t _ => by rw [Nat.zero_add]), h.en.cnt, Nat.zero_add] at this
  exact this
/-! a name is sought -/
theorem nmK_eq {w : NSt} {A : AB} (h : MI w A) {k fr n : Nat} (hk : k < w.1 12) (hok : nmOk A.tp A.tl fr n = true) : nmK w 13 14 k = nmN A.tp fr n ↔ (w.2 13 k = n ∧ ∀ i, i < n → w.2 14 (20 * k + i) = w.2 0 (fr + i)) := by
  obtain ⟨o1, o2, o3⟩ := nmOk_le hok
  have htl := h.tl.2
  have hnl := NL_of hok (fun i hi => (h.tp i (by omega)).2)
  have knl := h.en.nl k hk
  constructor
  · intro e
    have el : w.2 13 k = n := by rw [← knl.len, e, hnl.len]
    refine ⟨el, fun i hi => ?_⟩
    have d1 := (h.tp (fr + i) (by omega))
    unfold nmK nmN at e
    have := hn_inj (fun j _ => by
      show (if j < w.2 13 k then w.2 14 (20 * k + j) % 256 else 0) < 256
      split
      · exact Nat.mod_lt _ (by decide)
      · decide) (fun j _ => by
      show (if j < n then A.tp (fr + j) else 0) < 256
      by_cases c : j < n
      · rw [if_pos c]; exact (h.tp (fr + j) (by omega)).2
      · rw [if_neg c]; decide) e i (by omega)
    have this : (if i < w.2 13 k then w.2 14 (20 * k + i) % 256 else 0) = (if i < n then A.tp (fr + i) else 0) := this
    rw [if_pos (by omega), if_pos hi] at this
    rw [h.en.by' k hk i (by omega), this, d1.1]
  · rintro ⟨el, hb⟩
    unfold nmK nmN
    refine hn_congr (fun i _ => ?_)
    rw [el]
    by_cases c : i < n
    · obtain ⟨d1, d2⟩ := h.tp (fr + i) (by omega)
      rw [if_pos c, if_pos c, hb i c, d1, sxN_md d2]
    · rw [if_neg c, if_neg c]
theorem seek_in (FU : Nat) {w : NSt} {A : AB} (h : MI w A) {k fr n : Nat} (hk : k < w.1 12) (hfr : fr + n ≤ 2060) (hn : n ≤ 20) (K : Int32 → Int32 → Int32 → Int32 → St → Option Int32) (d : Int32) : ∀ (m i q : Nat), i + m = n → m < q → (∀ j, j < i → w.2 14 (20 * k + j) = w.2 0 (fr + j)) → ((∀ j, j < n → w.2 14 (20 * k + j) = w.2 0 (fr + j)) → Mod_seek_b44 FU K q d (nI fr) (nI n) (nI k) (1 : Int32) (nI i) (up w) = some (nI k)) ∧ (¬ (∀ j, j < n → w.2 14 (20 * k + j) = w.2 0 (fr + j)) → Mod_seek_b44 FU K q d (nI fr) (nI n) (nI k) (1 : Int32) (nI i) (up w) = K d (nI fr) (nI n) (nI (k + 1)) (up w)) := by
  have hE := h.en.le
  intro m
  induction m with
  | zero =>
    intro i q h1 h2 h3
    obtain ⟨q, rfl⟩ : ∃ q9, q = q9 + 1 := ⟨q - 1, by omega⟩
    have h1 : i = n := h1
    subst h1
    refine ⟨fun _ => ?_, fun w => absurd h3 w⟩
    unfold Mod_seek_b44 Mod_seek_b93
    rw [if_pos (nI_le (Nat.le_refl _) (by omega)), if_neg (show ¬ (1 : Int32) = 0 by decide)]
  | succ m ih =>
    intro i q h1 h2 h3
    obtain ⟨q, rfl⟩ : ∃ q9, q = q9 + 1 := ⟨q - 1, by omega⟩
    have e0 : Mod_seek_b44 FU K (q + 1) d (nI fr) (nI n) (nI k) (1 : Int32) (nI i) (up w) = if nI (w.2 14 (20 * k + i)) = nI (w.2 0 (fr + i)) then (Mod_seek_b44 FU K q) d (nI fr) (nI n) (nI k) (1 : Int32) (nI (i + 1)) (up w) else (Mod_seek_b44 FU K q) d (nI fr) (nI n) (nI k) (0 : Int32) (nI (i + 1)) (up w) := by
      have e1 : Mod_seek_b44 FU K (q + 1) d (nI fr) (nI n) (nI k) (1 : Int32) (nI i) (up w) = (if nI n ≤ nI i then Mod_seek_b93 FU K d (nI fr) (nI n) (nI k) (1 : Int32) (up w) else (if (1 : Int32) = 0 then Mod_seek_b93 FU K d (nI fr) (nI n) (nI k) (1 : Int32) (up w) else (rdA 48000 (up w) 14 (((20 : Int32) * nI k) + nI i)).bind fun v1 => (rdA 2060 (up w) 0 (nI fr + nI i)).bind fun v2 => (if v1 = v2 then Mod_seek_b85 FU (Mod_seek_b44 FU K q) d (nI fr) (nI n) (nI k) (nI i) (1 : Int32) (up w) else Mod_seek_b85 FU (Mod_seek_b44 FU K q) d (nI fr) (nI n) (nI k) (nI i) (0 : Int32) (up w)))) := rfl
      rw [e1, if_neg (nI_ge (by omega) (by omega)), if_neg (show ¬ (1 : Int32) = 0 by decide), show (20 : Int32) * nI k = nI (20 * k) from pk_mul 20 k, nI_add, rdA_z w 14 (by omega) (by decide), Option.bind_some, nI_add, rdA_z w 0 (by omega) (by decide), Option.bind_some]
      unfold Mod_seek_b85
      rw [nI_1]
    rw [e0]
    by_cases c : w.2 14 (20 * k + i) = w.2 0 (fr + i)
    · rw [if_pos (by rw [c])]
      exact ih (i + 1) q (by omega) (by omega) (fun j hj => by
        by_cases e : j = i
        · rw [e]; exact c
        · exact h3 j (by omega))
    · rw [if_neg (fun v => c ((nI_inj (h.po.wd _ _) (h.po.wd _ _)).mp v))]
      refine ⟨fun v => absurd (v i (by omega)) c, fun _ => ?_⟩
      obtain ⟨q, rfl⟩ : ∃ q9, q = q9 + 1 := ⟨q - 1, by omega⟩
      unfold Mod_seek_b44 Mod_seek_b93
      rw [if_pos (show (0 : Int32) = 0 from rfl), nI_1]
      by_cases e : nI n ≤ nI (i + 1)
      · rw [if_pos e]
      · rw [if_neg e, if_pos rfl]
theorem seek_b {FU : Nat} (hF : 140000 < FU) {w : NSt} {A : AB} (h : MI w A) {d fr n : Nat} (hd : d < 2 ^ 32) (hok : nmOk A.tp A.tl fr n = true) : ∀ (m k q : Nat), k + m = w.1 12 → m < q → (∀ k', k' < k → ¬ (w.2 11 k' = d ∧ nmK w 13 14 k' = nmN A.tp fr n)) → (∃ k', k' < w.1 12 ∧ w.2 11 k' = d ∧ nmK w 13 14 k' = nmN A.tp fr n ∧ Mod_seek_b3 FU q (nI d) (nI fr) (nI n) (nI k) (up w) = some (nI k')) ∨ ((∀ k', k' < w.1 12 → ¬ (w.2 11 k' = d ∧ nmK w 13 14 k' = nmN A.tp fr n)) ∧ Mod_seek_b3 FU q (nI d) (nI fr) (nI n) (nI k) (up w) = some (-1)) := by
  have hE := h.en.le
  obtain ⟨o1, o2, o3⟩ := nmOk_le hok
  have htl := h.tl.2
  intro m
  induction m with
  | zero =>
    intro k q h1 h2 h3
    obtain ⟨q, rfl⟩ : ∃ q9, q = q9 + 1 := ⟨q - 1, by omega⟩
    have h1 : k = w.1 12 := h1
    refine Or.inr ⟨by rw [← h1]; exact h3, ?_⟩
    unfold Mod_seek_b3
    rw [up1, ← h1, if_pos (nI_le (Nat.le_refl _) (by omega))]
  | succ m ih =>
    intro k q h1 h2 h3
    obtain ⟨q, rfl⟩ : ∃ q9, q = q9 + 1 := ⟨q - 1, by omega⟩
    have hk : k < w.1 12 := by omega
    have hm := nmK_eq h hk hok
    have next : ¬ (w.2 11 k = d ∧ nmK w 13 14 k = nmN A.tp fr n) → (∃ k', k' < w.1 12 ∧ w.2 11 k' = d ∧ nmK w 13 14 k' = nmN A.tp fr n ∧ (Mod_seek_b3 FU q) (nI d) (nI fr) (nI n) (nI (k + 1)) (up w) = some (nI k')) ∨ ((∀ k', k' < w.1 12 → ¬ (w.2 11 k' = d ∧ nmK w 13 14 k' = nmN A.tp fr n)) ∧ (Mod_seek_b3 FU q) (nI d) (nI fr) (nI n) (nI (k + 1)) (up w) = some (-1)) := fun hno => ih (k + 1) q (by omega) (by omega) (fun k' hk' => by
      by_cases e : k' = k
      · rw [e]; exact hno
      · exact h3 k' (by omega))
    have b38 : Mod_seek_b38 FU (Mod_seek_b3 FU q) (nI d) (nI fr) (nI n) (nI k) (up w) = (Mod_seek_b3 FU q) (nI d) (nI fr) (nI n) (nI (k + 1)) (up w) := by
      unfold Mod_seek_b38 Mod_seek_b39
      obtain ⟨r, er⟩ : ∃ r, FU = r + 1 := ⟨FU - 1, by omega⟩
      have e1 : Mod_seek_b44 FU (Mod_seek_b3 FU q) (r + 1) (nI d) (nI fr) (nI n) (nI k) (0 : Int32) (0 : Int32) (up w) = (Mod_seek_b3 FU q) (nI d) (nI fr) (nI n) (nI (k + 1)) (up w) := by
        unfold Mod_seek_b44 Mod_seek_b93
        rw [if_neg (show ¬ nI n ≤ (0 : Int32) from fun v => by
          rw [show (0 : Int32) = nI 0 from rfl, nI_leI (by omega) (by decide)] at v
          omega), if_pos rfl, if_pos rfl, nI_1]
      rw [← er] at e1
      exact e1
    unfold Mod_seek_b3
    rw [up1, if_neg (nI_ge hk (by omega)), rdA_z w 11 (by omega) (by decide), Option.bind_some]
    by_cases c1 : w.2 11 k = d
    · rw [if_pos (by rw [c1]), rdA_z w 13 (by omega) (by decide), Option.bind_some]
      by_cases c2 : w.2 13 k = n
      · rw [if_pos (by rw [c2])]
        unfold Mod_seek_b39
        obtain ⟨s1, s2⟩ := seek_in FU h hk (fr := fr) (n := n) (by omega) o2 (Mod_seek_b3 FU q) (nI d) n 0 FU (by omega) (by omega) (fun j hj => by omega)
        by_cases c3 : ∀ j, j < n → w.2 14 (20 * k + j) = w.2 0 (fr + j)
        · exact Or.inl ⟨k, hk, c1, hm.mpr ⟨c2, c3⟩, s1 c3⟩
        · rw [show (0 : Int32) = nI 0 from rfl, s2 c3]
          exact next (fun v => c3 (hm.mp v.2).2)
      · rw [if_neg (fun v => c2 ((nI_inj (h.po.wd _ _) (by omega)).mp v)), b38]
        exact next (fun v => c2 (hm.mp v.2).1)
    · rw [if_neg (fun v => c1 ((nI_inj (h.po.wd _ _) hd).mp v)), b38]
      exact next (fun v => c1 v.1)
theorem seek_z {FU : Nat} (hF : 140000 < FU) {w : NSt} {A : AB} (h : MI w A) {d fr n : Nat} (hd : d < 2 ^ 32) (hok : nmOk A.tp A.tl fr n = true) : (∃ k, k < w.1 12 ∧ w.2 11 k = d ∧ nmK w 13 14 k = nmN A.tp fr n ∧ w.2 12 k = A.T.ent d (nmN A.tp fr n) ∧ A.T.ent d (nmN A.tp fr n) ≠ 0 ∧ Mod_seek FU (nI d) (nI fr) (nI n) (up w) = some (nI k)) ∨ (A.T.ent d (nmN A.tp fr n) = 0 ∧ Mod_seek FU (nI d) (nI fr) (nI n) (up w) = some (-1)) := by
  have hE := h.en.le
  unfold Mod_seek
  rcases seek_b hF h hd hok (w.1 12) 0 FU (by omega) (by omega) (fun k' hk' => by omega) with ⟨k, k1, k2, k3, k4⟩ | ⟨k1, k2⟩
  · obtain ⟨e1, e2, -⟩ := h.en.en k k1
    rw [k2, k3] at e1
    exact Or.inl ⟨k, k1, k2, k3, e1.symm, by rw [e1]; exact e2, k4⟩
  · refine Or.inr ⟨Classical.byContradiction (fun q => ?_), k2⟩
    obtain ⟨k, a, b, c⟩ := h.en.all d _ q
    exact k1 k a ⟨b, c⟩
/-! the lowest id -/
theorem freeId_b (FU : Nat) {w : NSt} {A : AB} (h : MI w A) : ∀ (m i q : Nat), 1 ≤ i → i + m = 251 → m < q → (∀ j, 1 ≤ j → j < i → ¬ (A.T.kd j = 0 ∧ A.O.kd j = 0)) → Mod_freeId_b2 FU q (nI i) (up w) = some (if A.lw = 0 then (-1 : Int32) else nI A.lw) := by
  intro m
  induction m with
  | zero =>
    intro i q h0 h1 h2 h3
    obtain ⟨q, rfl⟩ : ∃ q9, q = q9 + 1 := ⟨q - 1, by omega⟩
    have h1 : i = 251 := h1
    subst h1
    unfold Mod_freeId_b2
    have e : A.lw = 0 := Classical.byContradiction (fun v => by
      obtain ⟨a, b, c, d⟩ := lw_ok v
      exact h3 A.lw a (by omega) ⟨c, d⟩)
    rw [if_pos (show (250 : Int32) < nI 251 by decide), if_pos (show (250 : Int32) < nI 251 by decide), if_pos e]
  | succ m ih =>
    intro i q h0 h1 h2 h3
    obtain ⟨q, rfl⟩ : ∃ q9, q = q9 + 1 := ⟨q - 1, by omega⟩
    unfold Mod_freeId_b2 Mod_freeId_b31
    obtain ⟨k1, k2⟩ := h.kd i h0 (by omega)
    have ng : ¬ (250 : Int32) < nI i := fun v => by
      rw [show (250 : Int32) = nI 250 from rfl, nI_ltI (by decide) (by omega)] at v
      omega
    have next : ¬ (A.T.kd i = 0 ∧ A.O.kd i = 0) → (Mod_freeId_b2 FU q) (nI i + 1) (up w) = some (if A.lw = 0 then (-1 : Int32) else nI A.lw) := fun hno => by
      rw [nI_1]
      exact ih (i + 1) q (by omega) (by omega) (by omega) (fun j j1 j2 => by
        by_cases e : j = i
        · rw [e]; exact hno
        · exact h3 j j1 (by omega))
    have b1 := h.po.wd 2 i
    have b2 := h.po.wd 2 (251 + i)
    rw [k1] at b1
    rw [k2] at b2
    rw [if_neg ng, rdA_z w 2 (by omega) (by decide), Option.bind_some, k1]
    by_cases c1 : A.T.kd i = 0
    · rw [if_pos (show nI (A.T.kd i) = (0 : Int32) by rw [c1]; rfl), show (251 : Int32) + nI i = nI (251 + i) from nI_add 251 i, rdA_z w 2 (by omega) (by decide), Option.bind_some, k2]
      by_cases c2 : A.O.kd i = 0
      · have e : A.lw = i := by
          rcases lw_spec A with ⟨-, b⟩ | ⟨a, b, c, d⟩
          · exact absurd ⟨c1, c2⟩ (b i h0 (by omega))
          · have l1 : ¬ A.lw < i := fun v => h3 A.lw a v c
            have l2 : ¬ i < A.lw := fun v => d i h0 v ⟨c1, c2⟩
            omega
        rw [if_pos (show nI (A.O.kd i) = (0 : Int32) by rw [c2]; rfl), if_neg ng, e, if_neg (by omega)]
      · rw [if_neg (ne0_I b2 c2)]
        exact next (fun v => c2 v.2)
    · rw [if_neg (ne0_I b1 c1)]
      exact next (fun v => c1 v.1)
theorem freeId_z {FU : Nat} (hF : 140000 < FU) {w : NSt} {A : AB} (h : MI w A) (h1 : A.T.kd 1 ≠ 0) : Mod_freeId FU (up w) = some (if A.lw = 0 then (-1 : Int32) else nI A.lw) := by
  unfold Mod_freeId
  exact freeId_b FU h 249 2 FU (by omega) (by omega) (by omega) (fun j j1 j2 => by
    have : j = 1 := by omega
    rw [this]
    exact fun v => h1 v.1)
/-! within -/
theorem isWithin_k (FU : Nat) {w : NSt} {A : AB} (h : MI w A) (hA : TWF A.T) {x : Nat} (hx : A.T.kd x = 2) (h1 : x ≠ 1) (K : Int32 → Int32 → St → Option Int32) (t : Int32) (x32 : x < 2 ^ 32) : ∀ (m k q : Nat), k + m = w.1 12 → m < q → (∃ k', k ≤ k' ∧ k' < w.1 12 ∧ w.2 12 k' = x) → Mod_isWithin_b15 FU K q t (nI x) (nI k) (up w) = K t (nI (A.T.par x)) (up w) := by
  have hE := h.en.le
  intro m
  induction m with
  | zero =>
    rintro k q h1 - ⟨k', a, b, -⟩
    omega
  | succ m ih =>
    rintro k q h1 h2 ⟨k', a, b, c⟩
    obtain ⟨q, rfl⟩ : ∃ q9, q = q9 + 1 := ⟨q - 1, by omega⟩
    unfold Mod_isWithin_b15
    rw [rdA_z w 12 (by omega) (by decide), Option.bind_some]
    by_cases e : w.2 12 k = x
    · obtain ⟨e1, -, -⟩ := h.en.en k (by omega)
      have hp := hA.pr (w.2 11 k) (nmK w 13 14 k) (by rw [e1, e]; exact hx)
      rw [e1, e] at hp
      rw [if_pos (by rw [e]), rdA_z w 11 (by omega) (by decide), Option.bind_some, hp]
    · rw [if_neg (fun v => e ((nI_inj (h.po.wd _ _) x32).mp v)), nI_1]
      refine ih (k + 1) q (by omega) (by omega) ⟨k', ?_, b, c⟩
      by_cases d : k' = k
      · rw [d] at c; exact absurd c e
      · omega
theorem isWithin_m {FU : Nat} (hF : 140000 < FU) {w : NSt} {A : AB} (h : MI w A) (hA : TWF A.T) (hT : TFA A.T) {top : Nat} (ht : top < 2 ^ 32) : ∀ (m d q : Nat), A.T.kd d = 2 → upN A.T m d = 1 → m < q → Mod_isWithin_b2 FU q (nI top) (nI d) (up w) = some (nI (if isInW A.T top (m + 1) d = true then 1 else 0)) := by
  have hE := h.en.le
  intro m
  induction m with
  | zero =>
    intro d q hd hu hq
    obtain ⟨q, rfl⟩ : ∃ q9, q = q9 + 1 := ⟨q - 1, by omega⟩
    have hu : d = 1 := hu
    unfold Mod_isWithin_b2 isInW
    by_cases c : d = top
    · rw [if_pos (by rw [c]), if_pos (by rw [c]), if_pos c, if_pos rfl]; rfl
    · rw [if_neg (fun v => c ((nI_inj (by omega) ht).mp v)), if_pos (show nI d = (1 : Int32) by rw [hu]; rfl), if_neg (fun v => c ((nI_inj (by omega) ht).mp v)), if_neg c, if_pos hu, if_neg (by decide)]; rfl
  | succ m ih =>
    intro d q hd hu hq
    obtain ⟨q, rfl⟩ : ∃ q9, q = q9 + 1 := ⟨q - 1, by omega⟩
    have hd2 := (hT.rng d (by omega)).2.1
    unfold Mod_isWithin_b2 isInW
    by_cases c : d = top
    · rw [if_pos (by rw [c]), if_pos (by rw [c]), if_pos c, if_pos rfl]; rfl
    · rw [if_neg (fun v => c ((nI_inj (by omega) ht).mp v)), if_neg c]
      by_cases c1 : d = 1
      · rw [if_pos (show nI d = (1 : Int32) by rw [c1]; rfl), if_neg (fun v => c ((nI_inj (by omega) ht).mp v)), if_pos c1, if_neg (by decide)]; rfl
      · have hl := hA.dl d hd c1
        obtain ⟨a, n, e⟩ := lkc_ex (T := A.T) (x := d) (by omega)
        obtain ⟨k, k1, k2, k3⟩ := h.en.all a n (by rw [e]; have := (hT.rng d (by omega)).1; omega)
        have k4 := (h.en.en k k1).1
        rw [k2, k3, e] at k4
        rw [if_neg (fun v : nI d = (1 : Int32) => c1 ((eqN (by omega) (c := 1) (by decide)).mp v)), if_neg c1, show (0 : Int32) = nI 0 from rfl, isWithin_k FU h hA hd c1 (Mod_isWithin_b2 FU q) (nI top) (by omega) (w.1 12) 0 FU (by omega) (by omega) ⟨k, by omega, k1, k4.symm⟩]
        exact ih (A.T.par d) q (hA.ac.2.2.1 d hd c1) hu (by omega)
theorem isWithin_z {FU : Nat} (hF : 140000 < FU) {w : NSt} {A : AB} (h : MI w A) (hA : TWF A.T) (hT : TFA A.T) {top d : Nat} (ht : top < 2 ^ 32) (hd : A.T.kd d = 2) : Mod_isWithin FU (nI d) (nI top) (up w) = some (nI (if isInB A.T d top = true then 1 else 0)) := by
  obtain ⟨m, m1, m2⟩ := hA.ac.2.2.2 d hd
  unfold Mod_isWithin isInB
  rw [isWithin_m hF h hA hT ht m d FU hd m2 (by omega)]
  have e : (isInW A.T top (m + 1) d = true) ↔ (isInW A.T top 250 d = true) := by
    rw [isInW_iff (m + 1) d ⟨m, by omega, m2⟩, isInW_iff 250 d ⟨m, m1, m2⟩]
  by_cases c : isInW A.T top 250 d = true
  · rw [if_pos c, if_pos (e.mpr c)]
  · rw [if_neg c, if_neg (fun v => c (e.mp v))]
