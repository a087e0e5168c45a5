/-! the model: blocks in use, a checkpoint, room -/
theorem truncF_z {FU : Nat} (hF : 140000 < FU) {w : NSt} {A : AB} {s0 : Nat} (h : MI w A) (hA : AI A s0) (hT : AT A) {f s : Nat} (hk : A.T.kd f = 1) (hs : s ≤ 100000) : Ev ((rdA 753 (up w) 3 (nI f)).bind fun v14 => (if nI s < v14 then Mod_truncate_b71 FU (nI f) (nI s) (up w) else (if nI s ≤ 0 then Mod_truncate_b71 FU (nI f) (nI s) (up w) else (Mod_grow FU (nI f) (nI s) (up w)).bind fun p15 => some p15))) fun r => ∃ y, r = up y ∧ MI y (A.w_T (A.T.wFil (va_up A.T.fil f (trF (A.T.fil f) s)))) ∧ y.1 0 = w.1 0 := by
  obtain ⟨hf1, hf, -⟩ := hT.t.rng f (by omega)
  have hv := hT.t.fv f hk
  have hW := h.wf hk hf1 hf
  have hszb := hv.szb
  have hsmb := hv.smb
  have hsz : w.2 3 f = (A.T.fil f).sz := by
    have := hW.pv.sz
    rw [show 251 * 0 + f = f by omega] at this
    exact this
  have cut : (s < (A.T.fil f).sz ∨ s = 0) → Ev (Mod_truncate_b71 FU (nI f) (nI s) (up w)) fun r => ∃ y, r = up y ∧ MI y (A.w_T (A.T.wFil (va_up A.T.fil f (trF (A.T.fil f) s)))) ∧ y.1 0 = w.1 0 := fun q => by
    unfold Mod_truncate_b71
    have e : (nI s + (255 : Int32)) / (256 : Int32) = nI ((s + 255) / 256) := by
      rw [show (255 : Int32) = nI 255 from rfl, nI_add, show (256 : Int32) = nI 256 from rfl, pk_div (by omega) (by decide) (by decide)]
    rw [e]
    refine (cut_b hF h hA hT hk hs q (391 - (s + 255) / 256) ((s + 255) / 256) FU w (by omega) (Nat.le_refl _) (by omega) (hW.cg rfl rfl (fun _ p _ => ?_) (fun i _ => ?_))).mono ?_
    · show (if (s + 255) / 256 ≤ p ∧ p < (s + 255) / 256 then 0 else (A.T.fil f).has p) = 0 ↔ _
      rw [if_neg (by omega)]
    · show (if 256 * ((s + 255) / 256) ≤ i ∧ i < 256 * ((s + 255) / 256) then 0 else (A.T.fil f).byt i) = _
      rw [if_neg (by omega)]
    · rintro _ ⟨z, rfl, hz⟩
      exact ⟨z, rfl, h.file hk hf1 hf hz, hz.sc 0 (by decide)⟩
  rw [rdA_z w 3 (by omega) (by decide), Option.bind_some, hsz]
  by_cases c : s < (A.T.fil f).sz
  · rw [if_pos (nI_lt c (by omega))]
    exact cut (Or.inl c)
  · rw [if_neg (nI_nlt (by omega) (by omega))]
    by_cases d : s = 0
    · rw [if_pos (show nI s ≤ (0 : Int32) by rw [d]; decide)]
      exact cut (Or.inr d)
    · rw [if_neg (show ¬ nI s ≤ (0 : Int32) from fun v => by
        rw [show (0 : Int32) = nI 0 from rfl, nI_leI (by omega) (by decide)] at v
        omega)]
      refine (grow_z hF h hA hT hk hs).bd ?_
      rintro _ ⟨y, rfl, hy⟩
      refine Ev.ret ⟨y, rfl, h.file hk hf1 hf ?_, hy.sc 0 (by decide)⟩
      obtain ⟨F, eF⟩ : ∃ F, F = A.T.fil f := ⟨_, rfl⟩
      rw [← eF] at hy hv hszb hsmb c ⊢
      refine hy.cg ?_ ?_ (fun q p hp => ?_) (fun i hi => ?_)
      · rw [grF_sz]
        have e : (if F.sz < s then s else F.sz) = s := by split <;> omega
        rw [e]
        unfold trF
        repeat' split
        all_goals rfl
      · rw [grF_sm]
        unfold trF
        by_cases c1 : F.sm = 1
        · rw [if_pos c1]
          by_cases c2 : s ≤ 96
          · rw [if_pos c2, if_neg (by omega), c1]; rfl
          · rw [if_neg c2, if_pos ⟨c1, by omega⟩]; rfl
        · rw [if_neg c1, if_neg c, if_neg (fun v => c1 v.1)]
          show 0 = F.sm
          omega
      · rw [grF_sm] at q
        rw [grF_has]
        unfold trF
        by_cases c1 : F.sm = 1
        · by_cases c2 : s ≤ 96
          · rw [if_neg (by omega)] at q; omega
          · rw [if_pos c1, if_neg c2, if_pos ⟨c1, by omega⟩]; exact Iff.rfl
        · rw [if_neg c1, if_neg c, if_neg (fun v => c1 v.1)]; exact Iff.rfl
      · rw [grF_byt]
        unfold trF
        by_cases c1 : F.sm = 1
        · rw [if_pos c1]
          by_cases c2 : s ≤ 96
          · rw [if_pos c2]
            show (if i < s then F.byt i else 0) = F.byt i
            by_cases c3 : i < s
            · rw [if_pos c3]
            · rw [if_neg c3, hv.zer i (by omega)]
          · rw [if_neg c2]; rfl
        · rw [if_neg c1, if_neg c]; rfl
theorem nodesFor_m (FU : Nat) (g : St) {s : Nat} (hs : s ≤ 100000) : Mod_nodesFor FU (nI s) g = some (nI (nfN ((s + 255) / 256))) := by
  have e : (nI s + (255 : Int32)) / (256 : Int32) = nI ((s + 255) / 256) := by
    rw [show (255 : Int32) = nI 255 from rfl, nI_add, show (256 : Int32) = nI 256 from rfl, pk_div (by omega) (by decide) (by decide)]
  obtain ⟨b, eb⟩ : ∃ b, b = (s + 255) / 256 := ⟨_, rfl⟩
  have hb : b ≤ 391 := by omega
  unfold Mod_nodesFor nfN
  rw [e, ← eb]
  by_cases c1 : 20 < b
  · rw [if_pos (show (20 : Int32) < nI b from nI_lt (a := 20) c1 (by omega)), if_neg (show ¬ b ≤ 20 by omega)]
    by_cases c2 : 76 < b
    · rw [if_pos (show (76 : Int32) < nI b from nI_lt (a := 76) c2 (by omega))]
      by_cases c3 : 132 < b
      · rw [if_pos (show (132 : Int32) < nI b from nI_lt (a := 132) c3 (by omega)), if_neg (by omega), show (132 : Int32) = nI 132 from rfl, pk_sub (by omega), show (55 : Int32) = nI 55 from rfl, nI_add, show (56 : Int32) = nI 56 from rfl, pk_div (by omega) (by decide) (by decide), show (3 : Int32) = nI 3 from rfl, nI_add]
        congr 2
        omega
      · rw [if_neg (show ¬ (132 : Int32) < nI b from fun v => by
          rw [show (132 : Int32) = nI 132 from rfl, nI_ltI (by decide) (by omega)] at v
          omega), if_pos (by omega), show (2 : Int32) = nI 2 from rfl]
        congr 2
        omega
    · rw [if_neg (show ¬ (76 : Int32) < nI b from fun v => by
        rw [show (76 : Int32) = nI 76 from rfl, nI_ltI (by decide) (by omega)] at v
        omega), if_pos (by omega), show (1 : Int32) = nI 1 from rfl]
      congr 2
      omega
  · rw [if_neg (show ¬ (20 : Int32) < nI b from fun v => by
      rw [show (20 : Int32) = nI 20 from rfl, nI_ltI (by decide) (by omega)] at v
      omega), if_pos (by omega)]
    rfl
theorem blk_b (FU : Nat) {w : NSt} (hpo : PO w) {id : Nat} (hid : id ≤ 250) : ∀ (m p q c : Nat), p + m = 391 → m < q → Mod_blocksOf_b54 FU q (nI id) (nI c) (nI p) (up w) = some (nI (c + sm (fun t => if w.2 8 (pcN 0 id (p + t)) = neg1 then 0 else 1) m)) := by
  intro m
  induction m with
  | zero =>
    intro p q c h1 h2
    obtain ⟨q, rfl⟩ : ∃ q9, q = q9 + 1 := ⟨q - 1, by omega⟩
    have h1 : p = 391 := h1
    unfold Mod_blocksOf_b54
    rw [h1, if_pos (show (391 : Int32) ≤ nI 391 by decide)]
    rfl
  | succ m ih =>
    intro p q c h1 h2
    obtain ⟨q, rfl⟩ : ∃ q9, q = q9 + 1 := ⟨q - 1, by omega⟩
    unfold Mod_blocksOf_b54 Mod_blocksOf_b81
    have hi := pcN_lt (l := 0) (by decide) hid (show p < 391 by omega)
    have hv := hpo.pr _ hi
    have e : sm (fun t => if w.2 8 (pcN 0 id (p + t)) = neg1 then 0 else 1) (m + 1) = (if w.2 8 (pcN 0 id p) = neg1 then 0 else 1) + sm (fun t => if w.2 8 (pcN 0 id (p + 1 + t)) = neg1 then 0 else 1) m := by
      rw [Nat.add_comm m 1, sm_cut]
      congr 1
      · exact Nat.zero_add _
      · exact sm_congr (fun t _ => by rw [show p + (1 + t) = p + 1 + t by omega])
    rw [e, if_neg (show ¬ (391 : Int32) ≤ nI p from fun v => by
      rw [show (391 : Int32) = nI 391 from rfl, nI_leI (by decide) (by omega)] at v
      omega), show (0 : Int32) = nI 0 from rfl, at_z, Option.bind_some, rdA_z w 8 hi (by decide), Option.bind_some]
    by_cases d : w.2 8 (pcN 0 id p) = neg1
    · rw [if_pos (show nI (w.2 8 (pcN 0 id p)) < nI 0 from (neg_lt hv).mpr d), if_pos d, nI_add, nI_1, ih (p + 1) q (c + 0) (by omega) (by omega), Nat.zero_add, Nat.add_zero]
    · rw [if_neg (show ¬ nI (w.2 8 (pcN 0 id p)) < nI 0 from fun v => d ((neg_lt hv).mp v)), if_neg d, nI_1, nI_1, ih (p + 1) q (c + 1) (by omega) (by omega), Nat.add_assoc]
theorem blocksOf_m {FU : Nat} (hF : 140000 < FU) {w : NSt} {A : AB} (h : MI w A) (hT : TFA A.T) {id : Nat} (h1 : 1 ≤ id) (h2 : id ≤ 250) : Mod_blocksOf FU (nI id) (up w) = some (nI (blT A.T id)) := by
  have hk := (h.kd id h1 h2).1
  have hw2 := h.po.wd 2 id
  rw [hk] at hw2
  unfold Mod_blocksOf blT
  rw [rdA_z w 2 (by omega) (by decide), Option.bind_some, hk]
  by_cases k0 : A.T.kd id = 0
  · rw [if_pos (show nI (A.T.kd id) = (0 : Int32) by rw [k0]; rfl), if_neg (by omega), if_pos k0]; rfl
  · rw [if_neg (ne0_I hw2 k0), Option.bind_some]
    by_cases k2 : A.T.kd id = 2
    · rw [if_pos (show nI (A.T.kd id) = (2 : Int32) by rw [k2]; rfl), if_pos k2, namesOf_z hF h (by omega), Option.bind_some, show (1 : Int32) = nI 1 from rfl, nI_add]
    · have k1 : A.T.kd id = 1 := by
        have := (hT.rng id k0).2.2
        omega
      have hv := hT.fv id k1
      have hszb := hv.szb
      have hsmb := hv.smb
      have hp := (h.f0 id h1 h2).1 k1
      have e3 : w.2 3 id = (A.T.fil id).sz := by
        have := hp.sz
        rw [show 251 * 0 + id = id by omega] at this
        exact this
      have e5 : w.2 5 id = (A.T.fil id).sm := by
        have := hp.sml
        rw [show 251 * 0 + id = id by omega] at this
        exact this
      rw [if_neg (fun v : nI (A.T.kd id) = (2 : Int32) => k2 ((eqN hw2 (c := 2) (by decide)).mp v)), if_neg k2, if_neg k0, rdA_z w 5 (by omega) (by decide), Option.bind_some, e5]
      unfold blF
      by_cases c : (A.T.fil id).sm = 1
      · rw [if_neg (show ¬ nI (A.T.fil id).sm = (0 : Int32) by rw [c]; decide), if_pos c]; rfl
      · have c0 : (A.T.fil id).sm = 0 := by omega
        rw [if_pos (show nI (A.T.fil id).sm = (0 : Int32) by rw [c0]; rfl), if_neg c, rdA_z w 3 (by omega) (by decide), Option.bind_some, e3, nodesFor_m FU _ hszb, Option.bind_some, show (1 : Int32) = nI 1 from rfl, nI_add, show (0 : Int32) = nI 0 from rfl, blk_b FU h.po h2 391 0 FU _ (by omega) (by omega)]
        have e1 : sm (fun t => if w.2 8 (pcN 0 id (0 + t)) = neg1 then 0 else 1) 391 = sm (fun k => if (A.T.fil id).has k = 0 then 0 else 1) 391 := sm_congr (fun p hp' => by
          have := hp.hs c0 p hp'
          rw [Nat.zero_add]
          by_cases d : (A.T.fil id).has p = 0
          · rw [if_pos d, if_pos (this.mpr d)]
          · rw [if_neg d, if_neg (fun v => d (this.mp v))])
        have e2 : sm (fun k => if (A.T.fil id).has k = 0 then 0 else 1) 412 = sm (fun k => if (A.T.fil id).has k = 0 then 0 else 1) 391 := by
          have e9 : sm (fun k => if (A.T.fil id).has k = 0 then 0 else 1) 412 = sm (fun k => if (A.T.fil id).has k = 0 then 0 else 1) 391 + sm (fun i => if (A.T.fil id).has (391 + i) = 0 then 0 else 1) 21 := sm_cut (a := 391) (b := 21)
          rw [e9, sm_zero (f := fun i => if (A.T.fil id).has (391 + i) = 0 then 0 else 1) (fun i hi => if_pos (Classical.byContradiction (fun v => by
            have := hv.lim (391 + i) (by omega) v
            omega))), Nat.add_zero]
        rw [e1, e2, Nat.add_assoc, Nat.add_assoc, Nat.add_comm (nfN _)]
theorem inUse_b {FU : Nat} (hF : 140000 < FU) {w : NSt} {A : AB} (h : MI w A) (hT : TFA A.T) : ∀ (m i q c : Nat), 1 ≤ i → i + m = 251 → m < q → Mod_inUse_b4 FU q (nI c) (nI i) (up w) = some (nI (c + sm (fun j => blT A.T (i + j)) m)) := by
  intro m
  induction m with
  | zero =>
    intro i q c h0 h1 h2
    obtain ⟨q, rfl⟩ : ∃ q9, q = q9 + 1 := ⟨q - 1, by omega⟩
    have h1 : i = 251 := h1
    unfold Mod_inUse_b4
    rw [h1, if_pos (show (250 : Int32) < nI 251 by decide)]
    rfl
  | succ m ih =>
    intro i q c h0 h1 h2
    obtain ⟨q, rfl⟩ : ∃ q9, q = q9 + 1 := ⟨q - 1, by omega⟩
    unfold Mod_inUse_b4
    rw [if_neg (show ¬ (250 : Int32) < nI i from fun v => by
      rw [show (250 : Int32) = nI 250 from rfl, nI_ltI (by decide) (by omega)] at v
      omega), blocksOf_m hF h hT h0 (by omega), Option.bind_some, nI_add, nI_1, ih (i + 1) q _ (by omega) (by omega) (by omega)]
    have e : sm (fun j => blT A.T (i + j)) (m + 1) = blT A.T i + sm (fun j => blT A.T (i + 1 + j)) m := by
      rw [Nat.add_comm m 1, sm_cut]
      congr 1
      · exact Nat.zero_add _
      · exact sm_congr (fun t _ => by rw [show i + (1 + t) = i + 1 + t by omega])
    rw [e, Nat.add_assoc]
theorem inUse_z {FU : Nat} (hF : 140000 < FU) {w : NSt} {A : AB} (h : MI w A) (hT : TFA A.T) : Mod_inUse FU (up w) = some (nI (inT A.T)) := by
  unfold Mod_inUse
  have := inUse_b hF h hT 250 1 FU 0 (by omega) (by omega) (by omega)
  rw [Nat.zero_add] at this
  exact this
/-- the entries stay -/
def SE (y w : NSt) : Prop := y.1 12 = w.1 12 ∧ ∀ a, 11 ≤ a → a ≤ 14 → y.2 a = w.2 a
theorem SE.trans {z y w : NSt} (h : SE z y) (g : SE y w) : SE z w := ⟨h.1.trans g.1, fun a a1 a2 => (h.2 a a1 a2).trans (g.2 a a1 a2)⟩
theorem isCut_z (FU : Nat) {w : NSt} {A : AB} (h : MI w A) (hd : A.dv = 2) : Ev (Mod_isCut FU (up w)) fun r => ∃ y, r = (nI (if A.ct = 1 then 1 else 0), up y) ∧ MI y (if A.ct = 1 then A.off else A) ∧ y.1 0 = w.1 0 ∧ SE y w := by
  have hm := h.dv.2.2
  rw [if_pos hd] at hm
  have fin : ∀ (u : Nat), u ≤ 1 → MI (zI (zI w 2 (1 - u)) 8 neg1) (if u = 1 then A.off else A) → Ev (some (nI u, up (zI (zI w 2 (1 - u)) 8 neg1))) fun r => ∃ y, r = (nI u, up y) ∧ MI y (if u = 1 then A.off else A) ∧ y.1 0 = w.1 0 ∧ SE y w := fun u hu hy => Ev.ret ⟨_, rfl, hy, by rw [zI1, if_neg (by decide), zI1, if_neg (by decide)], by rw [zI1, if_neg (by decide), zI1, if_neg (by decide)], fun _ _ _ => rfl⟩
  have hio : ∀ k, k = 11 ∨ k = 12 ∨ k = 13 → ∀ v, (zI (zI w 2 v) 8 neg1).1 k = w.1 k := fun k hk v => by rw [zI1, if_neg (by omega), zI1, if_neg (by omega)]
  unfold Mod_isCut
  rw [up1]
  rcases h.ct with ⟨c, e⟩ | ⟨c, e⟩
  · rw [e, if_pos (show nI neg1 < (0 : Int32) by decide)]
    unfold Mod_isCut_b12
    rw [up1, hm, if_neg (show ¬ nI 1 = (0 : Int32) by decide), if_pos rfl, nx_eq, nx_eq, ← neg_I, show (1 : Int32) = nI 1 from rfl, up_I, up_I, show (0 : Int32) = nI 0 from rfl, if_pos (Or.inl rfl), if_neg (show ¬ A.ct = 1 by omega)]
    have := fin 0 (by decide) (by
      rw [if_neg (by decide)]
      refine h.io (fun k hk => hio k hk _) (fun a _ => rfl) h.po.wd ?_ ?_ (Or.inl ⟨c, rfl⟩) h.cd ?_ ?_ h.tp h.tb rfl rfl rfl rfl rfl
      · exact ⟨h.dv.1, h.dv.2.1, by rw [if_pos hd]; rfl⟩
      · exact h.ms
      · exact h.tl
      · exact h.ol)
    rw [if_neg (by decide)] at this
    rw [if_neg (show ¬ A.ct = 1 by omega)]
    exact this
  · rw [if_neg (show ¬ nI (w.1 8) < (0 : Int32) from fun v => by
      rw [show (0 : Int32) = nI 0 from rfl, nI_ltI e (by decide)] at v
      omega)]
    unfold Mod_isCut_b12
    rw [up1, hm, if_neg (show ¬ nI 1 = (0 : Int32) by decide), if_neg (show ¬ (1 : Int32) = 0 by decide), nx_eq, nx_eq, show (0 : Int32) = nI 0 from rfl, up_I, ← neg_I, up_I, if_pos (Or.inr rfl), if_pos c]
    have := fin 1 (by decide) (by
      rw [if_pos rfl]
      refine h.io (fun k hk => hio k hk _) (fun a _ => rfl) h.po.wd ?_ ?_ (Or.inl ⟨rfl, rfl⟩) (fun _ => rfl) ?_ ?_ h.tp h.tb rfl rfl rfl rfl rfl
      · refine ⟨by show (1 : Nat) ≤ 2; decide, ?_, rfl⟩
        have := h.dv.2.1
        rw [if_neg (by omega)] at this
        exact this
      · exact h.ms
      · exact h.tl
      · exact h.ol)
    rw [if_pos rfl] at this
    rw [if_pos c]
    exact this
theorem PV.mv {w y : NSt} {l id l' id' : Nat} {f : FV} (h : PV w l id f) (h3 : y.2 3 (251 * l' + id') = w.2 3 (251 * l + id)) (h5 : y.2 5 (251 * l' + id') = w.2 5 (251 * l + id)) (h8 : ∀ p, p < 391 → y.2 8 (pcN l' id' p) = w.2 8 (pcN l id p)) (h9 : y.2 9 = w.2 9) : PV y l' id' f := by
  refine ⟨by rw [h3]; exact h.sz, by rw [h5]; exact h.sml, fun q p hp => by rw [h8 p hp]; exact h.hs q p hp, fun q p p1 hp => by rw [h8 p hp]; exact h.s1 q p p1 hp, fun i hi => ?_⟩
  rw [h8 _ (by omega), h9]; exact h.by' i hi
theorem PN0.mv {w y : NSt} {l id l' id' : Nat} (h : PN0 w l id) (h8 : ∀ p, p < 391 → y.2 8 (pcN l' id' p) = w.2 8 (pcN l id p)) : PN0 y l' id' := fun p hp => by rw [h8 p hp]; exact h p hp
/-- while a checkpoint goes over the ids -/
def CKI (y w : NSt) (A : AB) (i : Nat) : Prop := (PO y) ∧ (y.1 = w.1) ∧ (∀ a, a ≤ 1 ∨ a = 9 ∨ 11 ≤ a → y.2 a = w.2 a) ∧ (∀ id, 1 ≤ id → id ≤ 250 → y.2 2 id = A.T.kd id ∧ y.2 2 (251 + id) = if id < i then A.T.kd id else A.O.kd id) ∧ (∀ id, 1 ≤ id → id ≤ 250 → (A.T.kd id = 1 → y.2 4 id = A.T.lk id) ∧ (id < i → A.T.kd id = 1 → y.2 4 (251 + id) = A.T.lk id)) ∧ (∀ id, 1 ≤ id → id ≤ 250 → y.2 6 id = if id < i then 0 else if A.S id = true then 1 else 0) ∧ (∀ id, 1 ≤ id → id ≤ 250 → id < i → y.2 7 id = 0) ∧ (∀ id, 1 ≤ id → id ≤ 250 → (A.T.kd id = 1 → PV y 0 id (A.T.fil id)) ∧ (A.T.kd id ≠ 1 → PN0 y 0 id)) ∧ (∀ id, 1 ≤ id → id ≤ 250 → (id < i → (A.T.kd id = 1 → PV y 1 id (A.T.fil id)) ∧ (A.T.kd id ≠ 1 → PN0 y 1 id)) ∧ (i ≤ id → A.O.kd id ≠ 1 → PN0 y 1 id)) ∧ (∀ id, 1 ≤ id → id ≤ 250 → (id < i → PN0 y 2 id) ∧ (i ≤ id → A.S id ≠ true → PN0 y 2 id))
theorem CKI.po {y w : NSt} {A : AB} {i : Nat} (h9 : CKI y w A i) : PO y := h9.1
theorem CKI.sc {y w : NSt} {A : AB} {i : Nat} (h9 : CKI y w A i) : y.1 = w.1 := h9.2.1
theorem CKI.ar {y w : NSt} {A : AB} {i : Nat} (h9 : CKI y w A i) : ∀ a, a ≤ 1 ∨ a = 9 ∨ 11 ≤ a → y.2 a = w.2 a := h9.2.2.1
theorem CKI.kd {y w : NSt} {A : AB} {i : Nat} (h9 : CKI y w A i) : ∀ id, 1 ≤ id → id ≤ 250 → y.2 2 id = A.T.kd id ∧ y.2 2 (251 + id) = if id < i then A.T.kd id else A.O.kd id := h9.2.2.2.1
theorem CKI.lk {y w : NSt} {A : AB} {i : Nat} (h9 : CKI y w A i) : ∀ id, 1 ≤ id → id ≤ 250 → (A.T.kd id = 1 → y.2 4 id = A.T.lk id) ∧ (id < i → A.T.kd id = 1 → y.2 4 (251 + id) = A.T.lk id) := h9.2.2.2.2.1
theorem CKI.sy {y w : NSt} {A : AB} {i : Nat} (h9 : CKI y w A i) : ∀ id, 1 ≤ id → id ≤ 250 → y.2 6 id = if id < i then 0 else if A.S id = true then 1 else 0 := h9.2.2.2.2.2.1
theorem CKI.rn {y w : NSt} {A : AB} {i : Nat} (h9 : CKI y w A i) : ∀ id, 1 ≤ id → id ≤ 250 → id < i → y.2 7 id = 0 := h9.2.2.2.2.2.2.1
theorem CKI.f0 {y w : NSt} {A : AB} {i : Nat} (h9 : CKI y w A i) : ∀ id, 1 ≤ id → id ≤ 250 → (A.T.kd id = 1 → PV y 0 id (A.T.fil id)) ∧ (A.T.kd id ≠ 1 → PN0 y 0 id) := h9.2.2.2.2.2.2.2.1
theorem CKI.f1 {y w : NSt} {A : AB} {i : Nat} (h9 : CKI y w A i) : ∀ id, 1 ≤ id → id ≤ 250 → (id < i → (A.T.kd id = 1 → PV y 1 id (A.T.fil id)) ∧ (A.T.kd id ≠ 1 → PN0 y 1 id)) ∧ (i ≤ id → A.O.kd id ≠ 1 → PN0 y 1 id) := h9.2.2.2.2.2.2.2.2.1
theorem CKI.f2 {y w : NSt} {A : AB} {i : Nat} (h9 : CKI y w A i) : ∀ id, 1 ≤ id → id ≤ 250 → (id < i → PN0 y 2 id) ∧ (i ≤ id → A.S id ≠ true → PN0 y 2 id) := h9.2.2.2.2.2.2.2.2.2
theorem MI.cki {w : NSt} {A : AB} (h : MI w A) : CKI w w A 1 := ⟨h.po, rfl, fun _ _ => rfl, fun id i1 i2 => ⟨(h.kd id i1 i2).1, by rw [if_neg (by omega)]; exact (h.kd id i1 i2).2⟩, fun id i1 i2 => ⟨(h.lk id i1 i2).1, fun q => by omega⟩, fun id i1 i2 => by rw [if_neg (by omega)]; exact h.sy id i1 i2, fun id i1 i2 q => by omega, h.f0, fun id i1 i2 => ⟨fun q => by omega, fun _ => (h.f1 id i1 i2).2⟩, fun id i1 i2 => ⟨fun q => by omega, fun _ => (h.f2 id i1 i2).2⟩⟩
/-- the last part of a step: kind, links, synced, renamed -/
theorem ck_end {FU : Nat} (hF : 140000 < FU) {w : NSt} {A : AB} (hT : TFA A.T) (K : Int32 → St → Option (Int32 × St)) (Q : Int32 × St → Prop) {i : Nat} (i1 : 1 ≤ i) (i2 : i ≤ 250) (hK : ∀ z, CKI z w A (i + 1) → Ev (K (nI (i + 1)) (up z)) Q) {y : NSt} (h : CKI y w A i) {x : NSt} (hx : PO x) (x1 : x.1 = y.1) (xa : ∀ a, a ≠ 2 → a ≠ 3 → a ≠ 5 → a ≠ 8 → a ≠ 10 → x.2 a = y.2 a) (x2 : ∀ j, j ≠ 251 + i → x.2 2 j = y.2 2 j) (x3 : ∀ j, j ≠ 251 + i → x.2 3 j = y.2 3 j) (x5 : ∀ j, j ≠ 251 + i → x.2 5 j = y.2 5 j) (x8 : ∀ l id p, l ≤ 2 → id ≤ 250 → p < 391 → ¬ (l = 1 ∧ id = i) → x.2 8 (pcN l id p) = y.2 8 (pcN l id p)) (xf : (A.T.kd i = 1 → PV x 1 i (A.T.fil i)) ∧ (A.T.kd i ≠ 1 → PN0 x 1 i)) : Ev (Mod_checkpoint_b58 FU K (nI i) (up x)) Q := by
  obtain ⟨k1, k2⟩ := h.kd i i1 i2
  have ek : x.2 2 i = A.T.kd i := by rw [x2 i (by omega), k1]
  unfold Mod_checkpoint_b58
  rw [rdA_z x 2 (by omega) (by decide), Option.bind_some, show (251 : Int32) + nI i = nI (251 + i) from nI_add 251 i, wrA_z x 2 (by omega) (by decide), Option.bind_some, rdA_z _ 4 (by omega) (by decide), Option.bind_some, wrA_z _ 4 (by omega) (by decide), Option.bind_some, rdA_z _ 6 (by omega) (by decide), Option.bind_some]
  obtain ⟨u, eu⟩ : ∃ u, u = zA (zA x 2 (251 + i) (x.2 2 i)) 4 (251 + i) ((zA x 2 (251 + i) (x.2 2 i)).2 4 i) := ⟨_, rfl⟩
  rw [← eu]
  have ua : ∀ a, a ≠ 2 → a ≠ 4 → u.2 a = x.2 a := fun a a1 a2 => by rw [eu, zA2, if_neg a2, zA2, if_neg a1]
  have u2 : u.2 2 = va_up (x.2 2) (251 + i) (x.2 2 i) := by rw [eu, zA2, if_neg (by decide), zA2, if_pos rfl]
  have u4 : u.2 4 = va_up (x.2 4) (251 + i) (x.2 4 i) := by rw [eu, zA2, if_pos rfl, zA2, if_neg (by decide)]
  have u1 : u.1 = x.1 := by rw [eu]; rfl
  have hu : PO u := hx.keep (by rw [u1]; exact hx.se) (ua 8 (by decide) (by decide)) (ua 10 (by decide) (by decide)) (fun a j => by
    by_cases c2 : a = 2
    · rw [c2, u2]; unfold va_up; split <;> exact hx.wd 2 _
    · by_cases c4 : a = 4
      · rw [c4, u4]; unfold va_up; split <;> exact hx.wd 4 _
      · rw [ua a c2 c4]; exact hx.wd a j)
  have e6 : u.2 6 i = if A.S i = true then 1 else 0 := by
    rw [ua 6 (by decide) (by decide), xa 6 (by decide) (by decide) (by decide) (by decide) (by decide), h.sy i i1 i2, if_neg (by omega)]
  -- what is left to do, whatever became of the synced layer
  have fin : ∀ (v : NSt), PO v → v.1 = u.1 → (∀ a, a ≠ 2 → a ≠ 3 → a ≠ 8 → a ≠ 10 → v.2 a = u.2 a) → (∀ j, j ≠ 502 + i → v.2 2 j = u.2 2 j) → (∀ j, j ≠ 502 + i → v.2 3 j = u.2 3 j) → (∀ l id p, l ≤ 2 → id ≤ 250 → p < 391 → ¬ (l = 2 ∧ id = i) → v.2 8 (pcN l id p) = u.2 8 (pcN l id p)) → PN0 v 2 i → Ev (Mod_checkpoint_b105 FU K (nI i) (up v)) Q := fun v hv v1 va v2 v3 v8 vn => by
    unfold Mod_checkpoint_b105
    rw [show nz (0 : Int32) = nI 0 by decide, wrA_z v 6 (by omega) (by decide), Option.bind_some, wrA_z _ 7 (by omega) (by decide), Option.bind_some, nI_1]
    obtain ⟨z, ez⟩ : ∃ z, z = zA (zA v 6 i 0) 7 i 0 := ⟨_, rfl⟩
    rw [← ez]
    have za : ∀ a, a ≠ 6 → a ≠ 7 → z.2 a = v.2 a := fun a a1 a2 => by rw [ez, zA2, if_neg a2, zA2, if_neg a1]
    have z6 : z.2 6 = va_up (v.2 6) i 0 := by rw [ez, zA2, if_neg (by decide), zA2, if_pos rfl]
    have z7 : z.2 7 = va_up (v.2 7) i 0 := by rw [ez, zA2, if_pos rfl, zA2, if_neg (by decide)]
    have z1 : z.1 = v.1 := by rw [ez]; rfl
    have y67 : ∀ a, a = 6 ∨ a = 7 → v.2 a = y.2 a := fun a ha => by rw [va a (by omega) (by omega) (by omega) (by omega), ua a (by omega) (by omega), xa a (by omega) (by omega) (by omega) (by omega) (by omega)]
    have z8 : ∀ l id p, l ≤ 2 → id ≤ 250 → p < 391 → ¬ (id = i ∧ (l = 1 ∨ l = 2)) → z.2 8 (pcN l id p) = y.2 8 (pcN l id p) := fun l id p hl hid hp hne => by
      rw [za 8 (by decide) (by decide), v8 l id p hl hid hp (fun q => hne ⟨q.2, Or.inr q.1⟩), ua 8 (by decide) (by decide), x8 l id p hl hid hp (fun q => hne ⟨q.2, Or.inl q.1⟩)]
    have z9 : z.2 9 = y.2 9 := by rw [za 9 (by decide) (by decide), va 9 (by decide) (by decide) (by decide) (by decide), ua 9 (by decide) (by decide), xa 9 (by decide) (by decide) (by decide) (by decide) (by decide)]
    have z3 : ∀ j, j ≠ 251 + i → j ≠ 502 + i → z.2 3 j = y.2 3 j := fun j a b => by rw [za 3 (by decide) (by decide), v3 j b, ua 3 (by decide) (by decide), x3 j a]
    have z5 : ∀ j, j ≠ 251 + i → z.2 5 j = y.2 5 j := fun j a => by rw [za 5 (by decide) (by decide), va 5 (by decide) (by decide) (by decide) (by decide), ua 5 (by decide) (by decide), x5 j a]
    refine hK z ⟨hv.keep (by rw [z1]; exact hv.se) (za 8 (by decide) (by decide)) (za 10 (by decide) (by decide)) (fun a j => ?_), by rw [z1, v1, u1, x1]; exact h.sc, fun a ha => ?_, fun id j1 j2 => ?_, fun id j1 j2 => ?_, fun id j1 j2 => ?_, fun id j1 j2 q => ?_, fun id j1 j2 => ?_, fun id j1 j2 => ?_, fun id j1 j2 => ?_⟩
    · by_cases c6 : a = 6
      · rw [c6, z6]; unfold va_up; split
        · decide
        · exact hv.wd 6 j
      · by_cases c7 : a = 7
        · rw [c7, z7]; unfold va_up; split
          · decide
          · exact hv.wd 7 j
        · rw [za a c6 c7]; exact hv.wd a j
    · rw [za a (by omega) (by omega), va a (by omega) (by omega) (by omega) (by omega), ua a (by omega) (by omega), xa a (by omega) (by omega) (by omega) (by omega) (by omega)]
      exact h.ar a ha
    · obtain ⟨a, b⟩ := h.kd id j1 j2
      rw [za 2 (by decide) (by decide), v2 id (by omega), v2 (251 + id) (by omega), u2, va_up_ne _ _ (show id ≠ 251 + i by omega), x2 id (by omega)]
      refine ⟨a, ?_⟩
      by_cases c : id = i
      · rw [c, va_up_self, ek, if_pos (by omega)]
      · rw [va_up_ne _ _ (by omega), x2 _ (by omega), b]
        by_cases d : id < i
        · rw [if_pos d, if_pos (by omega)]
        · rw [if_neg d, if_neg (by omega)]
    · obtain ⟨a, b⟩ := h.lk id j1 j2
      have v4 : v.2 4 = u.2 4 := va 4 (by decide) (by decide) (by decide) (by decide)
      have x4 : x.2 4 = y.2 4 := xa 4 (by decide) (by decide) (by decide) (by decide) (by decide)
      rw [za 4 (by decide) (by decide), v4, u4, x4, va_up_ne _ _ (show id ≠ 251 + i by omega)]
      refine ⟨a, fun q k => ?_⟩
      by_cases c : id = i
      · rw [c] at k ⊢
        rw [va_up_self]
        rw [c] at a
        exact a k
      · rw [va_up_ne _ _ (by omega)]
        exact b (by omega) k
    · rw [z6, y67 6 (by omega)]
      by_cases c : id = i
      · rw [c, va_up_self, if_pos (by omega)]
      · rw [va_up_ne _ _ c, h.sy id j1 j2]
        by_cases d : id < i
        · rw [if_pos d, if_pos (by omega)]
        · rw [if_neg d, if_neg (show ¬ id < i + 1 by omega)]
    · rw [z7, y67 7 (by omega)]
      by_cases c : id = i
      · rw [c, va_up_self]
      · rw [va_up_ne _ _ c]; exact h.rn id j1 j2 (by omega)
    · obtain ⟨a, b⟩ := h.f0 id j1 j2
      have e8 : ∀ p, p < 391 → z.2 8 (pcN 0 id p) = y.2 8 (pcN 0 id p) := fun p hp => z8 0 id p (by decide) j2 hp (by omega)
      exact ⟨fun q => (a q).mv (z3 _ (by omega) (by omega)) (z5 _ (by omega)) e8 z9, fun q => (b q).mv e8⟩
    · by_cases c : id = i
      · rw [c]
        have e8 : ∀ p, p < 391 → z.2 8 (pcN 1 i p) = x.2 8 (pcN 1 i p) := fun p hp => by
          rw [za 8 (by decide) (by decide), v8 1 i p (by decide) i2 hp (by omega), ua 8 (by decide) (by decide)]
        have e3 : z.2 3 (251 * 1 + i) = x.2 3 (251 * 1 + i) := by rw [za 3 (by decide) (by decide), v3 _ (by omega), ua 3 (by decide) (by decide)]
        have e5 : z.2 5 (251 * 1 + i) = x.2 5 (251 * 1 + i) := by rw [za 5 (by decide) (by decide), va 5 (by decide) (by decide) (by decide) (by decide), ua 5 (by decide) (by decide)]
        have e9 : z.2 9 = x.2 9 := by rw [za 9 (by decide) (by decide), va 9 (by decide) (by decide) (by decide) (by decide), ua 9 (by decide) (by decide)]
        exact ⟨fun _ => ⟨fun q => (xf.1 q).mv e3 e5 e8 e9, fun q => (xf.2 q).mv e8⟩, fun q => by omega⟩
      · obtain ⟨a, b⟩ := h.f1 id j1 j2
        have e8 : ∀ p, p < 391 → z.2 8 (pcN 1 id p) = y.2 8 (pcN 1 id p) := fun p hp => z8 1 id p (by decide) j2 hp (by omega)
        exact ⟨fun q => ⟨fun k => ((a (by omega)).1 k).mv (z3 _ (by omega) (by omega)) (z5 _ (by omega)) e8 z9, fun k => ((a (by omega)).2 k).mv e8⟩, fun q k => (b (by omega) k).mv e8⟩
    · by_cases c : id = i
      · rw [c]
        exact ⟨fun _ p hp => by rw [za 8 (by decide) (by decide)]; exact vn p hp, fun q => by omega⟩
      · obtain ⟨a, b⟩ := h.f2 id j1 j2
        have e8 : ∀ p, p < 391 → z.2 8 (pcN 2 id p) = y.2 8 (pcN 2 id p) := fun p hp => z8 2 id p (by decide) j2 hp (by omega)
        exact ⟨fun q => (a (by omega)).mv e8, fun q k => (b (by omega) k).mv e8⟩
  rw [e6]
  by_cases c : A.S i = true
  · rw [if_pos c, if_neg (show ¬ nI 1 = (0 : Int32) by decide), show (2 : Int32) = nI 2 from rfl]
    refine (drop_z hF hu (l := 2) (by decide) i2).bd ?_
    rintro _ ⟨v, rfl, v1, v2, v3, v4, v5, v6⟩
    refine fin v v1 v2 v3 (fun j hj => by rw [v4, va_up_ne _ _ (by omega)]) (fun j hj => by rw [v5, va_up_ne _ _ (by omega)]) (fun l id p hl hid hp hne => ?_) (fun p hp => ?_)
    · rw [v6, if_neg (fun q => hne ?_)]
      unfold pcN at q
      omega
    · rw [v6, if_pos (by unfold pcN; omega)]
  · rw [if_neg c, if_pos i00]
    refine fin u hu rfl (fun _ _ _ _ _ => rfl) (fun _ _ => rfl) (fun _ _ => rfl) (fun _ _ _ _ _ _ _ => rfl) (fun p hp => ?_)
    rw [ua 8 (by decide) (by decide), x8 2 i p (by decide) i2 hp (by omega)]
    exact (h.f2 i i1 i2).2 (Nat.le_refl _) c p hp
