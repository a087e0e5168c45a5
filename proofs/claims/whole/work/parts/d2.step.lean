/-! a step of the law -/
theorem i_nI (x : Int32) : ∃ n, n < 2 ^ 32 ∧ x = nI n := ⟨x.toBitVec.toNat, x.toBitVec.isLt, Int32.toBitVec_inj.mp (BitVec.eq_of_toNat_eq (by
  show x.toBitVec.toNat = x.toBitVec.toNat % 2 ^ 32
  rw [Nat.mod_eq_of_lt x.toBitVec.isLt]))⟩
def LI (z w : NSt) (A : AB) (t : Nat) : Prop := (FI z A) ∧ (AI A 0) ∧ (MJ w A) ∧ (XI A t)
theorem LI.fi {z w : NSt} {A : AB} {t : Nat} (h9 : LI z w A t) : FI z A := h9.1
theorem LI.ai {z w : NSt} {A : AB} {t : Nat} (h9 : LI z w A t) : AI A 0 := h9.2.1
theorem LI.mj {z w : NSt} {A : AB} {t : Nat} (h9 : LI z w A t) : MJ w A := h9.2.2.1
theorem LI.xi {z w : NSt} {A : AB} {t : Nat} (h9 : LI z w A t) : XI A t := h9.2.2.2
theorem FI.two {z : NSt} {A : AB} (h : FI z A) (d : A.dv = 2) : ∃ PP ch, FIN z A 0 PP ch := by
  rcases h.2 with q | ⟨q, -⟩ | ⟨-, q⟩
  · omega
  · omega
  · exact q
theorem FI.tfa {z : NSt} {A : AB} (h : FI z A) (d : A.dv = 2) : TFA A.T := by
  obtain ⟨PP, ch, q⟩ := h.two d
  exact q.nw.tok.tfa
theorem FI.rfa {z : NSt} {A : AB} (h : FI z A) (d : A.dv = 1) : TFA A.R := by
  rcases h.2 with q | ⟨-, x, PP, ch, q⟩ | ⟨q, -⟩
  · omega
  · exact q.off.nw.wk.rc.tok.tfa
  · omega
theorem LI.mh {z w : NSt} {A : AB} {t : Nat} (h : LI z w A t) (hm : MI w A) : MH w A := ⟨hm, fun d => ⟨h.fi.tfa d, h.xi.o, h.xi.f⟩, h.ai, fun d => by
  obtain ⟨PP, ch, q⟩ := h.fi.two d
  exact ⟨q.u28, inT_lt q.nw⟩⟩
def NX (o : Option ((Nat → Int64) × St × St)) (t : Nat) : Prop := Ev o (fun r => ∃ y w A, r.2.1 = up y ∧ r.2.2 = up w ∧ LI y w A t)
theorem STEP.nx {o : Option ((Nat → Int64) × St × St)} {A : AB} {t : Nat} (h : STEP o A) (ha : AI A 0) (hx : XI A t) : NX o t := Ev.mono h (fun r => fun ⟨y, w, a, b, c, d⟩ => ⟨y, w, A, a, b, c, ha, d, hx⟩)
/-- what is thrown -/
theorem rsvC_le (n : Nat) (A : AB) : rsvC n A ≤ 3 := by
  unfold rsvC
  repeat' split
  all_goals decide
theorem cd_rsv {A : AB} {n : Nat} {k : AB → ANS} (h : ∀ B, (k B).1 ≤ 3) : (rsvA n A k).1 ≤ 3 := by
  unfold rsvA
  split
  · exact h _
  · exact rsvC_le n A
theorem cd_pwr {A : AB} {r : ANS} {b : Nat} (hb : 2 ≤ b) (h : r.1 ≤ b) : (pwrA A r).1 ≤ b := by
  unfold pwrA
  split
  · exact h
  · exact hb
theorem cd_make {k d n : Nat} {A : AB} : (makeA k d n A).1 ≤ 3 := cd_pwr (by decide) (by
  split
  · exact Nat.le_of_ble_eq_true rfl
  · split
    · exact Nat.le_of_ble_eq_true rfl
    · exact cd_rsv (fun _ => Nat.zero_le _))
theorem cd_link {f d n : Nat} {A : AB} : (linkA f d n A).1 ≤ 3 := cd_pwr (by decide) (by
  split
  · exact Nat.le_of_ble_eq_true rfl
  · split
    · exact Nat.le_of_ble_eq_true rfl
    · exact cd_rsv (fun _ => Nat.zero_le _))
theorem cd_unlink {d n : Nat} {A : AB} : (unlinkA d n A).1 ≤ 3 := cd_pwr (by decide) (by
  split
  · exact Nat.le_of_ble_eq_true rfl
  · split
    · exact Nat.le_of_ble_eq_true rfl
    · exact cd_rsv (fun _ => Nat.zero_le _))
theorem cd_rmdir {d n : Nat} {A : AB} : (rmdirA d n A).1 ≤ 3 := cd_pwr (by decide) (by
  split
  · exact Nat.le_of_ble_eq_true rfl
  · split
    · exact Nat.le_of_ble_eq_true rfl
    · exact cd_rsv (fun _ => Nat.zero_le _))
theorem cd_rename {d n o m : Nat} {A : AB} : (renA d n o m A).1 ≤ 3 := cd_pwr (by decide) (by
  split
  · exact Nat.le_of_ble_eq_true rfl
  · unfold renA2
    split
    · exact cd_rsv (fun _ => Nat.zero_le _)
    · split
      · exact Nat.le_of_ble_eq_true rfl
      · exact cd_rsv (fun _ => Nat.zero_le _))
theorem cd_write {f a n : Nat} {A : AB} : (writeA f a n A).1 ≤ 3 := cd_pwr (by decide) (by
  split
  · exact Nat.le_of_ble_eq_true rfl
  · exact cd_rsv (fun _ => Nat.zero_le _))
theorem cd_trunc {f s : Nat} {A : AB} : (truncA f s A).1 ≤ 3 := cd_pwr (by decide) (by
  split
  · exact Nat.le_of_ble_eq_true rfl
  · exact cd_rsv (fun _ => Nat.zero_le _))
theorem cd_fsync {f : Nat} {A : AB} : (fsyncA f A).1 ≤ 3 := cd_pwr (by decide) (by
  split
  · exact Nat.le_of_ble_eq_true rfl
  · refine cd_rsv (fun B => ?_)
    unfold cutA
    split
    · exact Nat.le_of_ble_eq_true rfl
    · split <;> exact Nat.zero_le _)
theorem cd_find {d n : Nat} {A : AB} : (findA d n A).1 ≤ 2 := cd_pwr (by decide) (by
  split
  · exact Nat.le_of_ble_eq_true rfl
  · exact Nat.zero_le _)
theorem cd_read {f a n : Nat} {A : AB} : (readA f a n A).1 ≤ 2 := cd_pwr (by decide) (by
  split
  · exact Nat.le_of_ble_eq_true rfl
  · exact Nat.zero_le _)
theorem cd_name {d k : Nat} {A : AB} : (nameA d k A).1 ≤ 2 := cd_pwr (by decide) (by
  split
  · exact Nat.le_of_ble_eq_true rfl
  · split <;> exact Nat.zero_le _)
theorem cd_look {d k : Nat} {A : AB} : (lookA d k A).1 ≤ 2 := cd_pwr (by decide) (by
  split
  · exact Nat.le_of_ble_eq_true rfl
  · exact Nat.zero_le _)
theorem cd_count {k : Nat} {A : AB} : (countA k A).1 ≤ 2 := cd_pwr (by decide) (by
  split
  · exact Nat.le_of_ble_eq_true rfl
  · exact Nat.zero_le _)
theorem cd_byte {i : Nat} {A : AB} : (byteA i A).1 ≤ 1 := by
  unfold byteA
  split
  · exact Nat.zero_le _
  · exact Nat.le_refl _
theorem cd_format {s r : Nat} {A : AB} : (formatA s r A).1 ≤ 1 := by
  unfold formatA
  split
  · exact Nat.zero_le _
  · exact Nat.le_refl _
theorem cd_feed {w : Nat → Nat} {A : AB} : ((feedA w A).1 = 0 ∧ ofC (feedA w A).1 = 0) ∨ ((feedA w A).1 = 2 ∧ ofC (feedA w A).1 = 1) := by
  unfold feedA
  split
  · exact Or.inr ⟨rfl, rfl⟩
  · exact Or.inl ⟨rfl, rfl⟩
theorem cd_mount {A : AB} : ((mountA A).1 = 0 ∧ ofC (mountA A).1 = 0) ∨ ((mountA A).1 = 2 ∧ ofC (mountA A).1 = 1) := by
  unfold mountA
  split
  · exact Or.inl ⟨rfl, rfl⟩
  · exact Or.inr ⟨rfl, rfl⟩
theorem cd_po {A : AB} {r : ANS} (h : r.1 = 0) : ((pwrA A r).1 = 0 ∧ (if A.dv = 2 then 0 else 1) = 0) ∨ ((pwrA A r).1 = 2 ∧ (if A.dv = 2 then 0 else 1) = 1) := by
  unfold pwrA
  split
  · exact Or.inl ⟨h, rfl⟩
  · exact Or.inr ⟨rfl, rfl⟩
theorem cd_sync {A : AB} : ((syncA A).1 = 0 ∧ (if A.dv = 2 then (if A.ct = 1 then 2 else 0) else 1) = 0) ∨ ((syncA A).1 = 2 ∧ (if A.dv = 2 then (if A.ct = 1 then 2 else 0) else 1) = 1) ∨ ((syncA A).1 = 3 ∧ (if A.dv = 2 then (if A.ct = 1 then 2 else 0) else 1) = 2) := by
  unfold syncA pwrA cutA
  split
  · split
    · exact Or.inr (Or.inr ⟨rfl, rfl⟩)
    · exact Or.inl ⟨rfl, rfl⟩
  · exact Or.inr (Or.inl ⟨rfl, rfl⟩)
theorem st_0 {FU : Nat} (hF : 300000 < FU) {z w : NSt} {A : AB} {t : Nat} (h : LI z w A t) (ht : t ≤ 1500) (f : Nat → Int64) (xs : Nat → Int32) (i : Nat) : NX (lawC0 FU xs i f (up z) (up w)) (t + 2) := by
  have hF' : 140000 < FU := by omega
  have htk := h.xi.k
  obtain ⟨a1, b1, e1⟩ := i_nI (xs (i + 1))
  obtain ⟨a2, b2, e2⟩ := i_nI (xs (i + 2))
  unfold lawC0
  rw [e1, e2]
  exact (law_v FU (lv1 f (cl_format hF' h.fi b1 b2) cd_format) (format_j hF h.mj b1 b2)).nx (ai_format h.ai) (xi_format h.xi)
theorem st_1 {FU : Nat} (hF : 300000 < FU) {z w : NSt} {A : AB} {t : Nat} (h : LI z w A t) (ht : t ≤ 1500) (f : Nat → Int64) (xs : Nat → Int32) (i : Nat) : NX (lawC1 FU xs i f (up z) (up w)) (t + 2) := by
  have hF' : 140000 < FU := by omega
  obtain ⟨a1, b1, e1⟩ := i_nI (xs (i + 1))
  obtain ⟨a2, b2, e2⟩ := i_nI (xs (i + 2))
  obtain ⟨a3, b3, e3⟩ := i_nI (xs (i + 3))
  obtain ⟨a4, b4, e4⟩ := i_nI (xs (i + 4))
  obtain ⟨a5, b5, e5⟩ := i_nI (xs (i + 5))
  obtain ⟨ws, hw0, hw1, hw2, hw3, hw4, hw⟩ : ∃ ws : Nat → Nat, ws 0 = a1 ∧ ws 1 = a2 ∧ ws 2 = a3 ∧ ws 3 = a4 ∧ ws 4 = a5 ∧ ∀ j, j < 5 → ws j < 2 ^ 32 := ⟨fun j => if j = 0 then a1 else if j = 1 then a2 else if j = 2 then a3 else if j = 3 then a4 else a5, rfl, rfl, rfl, rfl, rfl, fun j _ => by
    show (if j = 0 then a1 else if j = 1 then a2 else if j = 2 then a3 else if j = 3 then a4 else a5) < 2 ^ 32
    repeat' split
    all_goals assumption⟩
  rw [← hw0] at e1
  rw [← hw1] at e2
  rw [← hw2] at e3
  rw [← hw3] at e4
  rw [← hw4] at e5
  unfold lawC1
  rw [e1, e2, e3, e4, e5]
  have hm : JM (Mod_feed FU (nI (ws 0)) (nI (ws 1)) (nI (ws 2)) (nI (ws 3)) (nI (ws 4)) (up w)) (ofC (feedA ws A).1) (feedA ws A) := by
    rcases h.mj with m | m
    · exact (mo_feed hF' m ws).j
    · exact feed_f hF' m ws
  have hc : ofC (feedA ws A).1 ≤ 3 := by
    rcases cd_feed (w := ws) (A := A) with q | q <;> omega
  exact (law_m FU (lfo f (cl_feed hF' h.fi hw) cd_feed) hm hc).nx (ai_feed h.ai) (xi_feed h.xi)
theorem st_2 {FU : Nat} (hF : 300000 < FU) {z w : NSt} {A : AB} {t : Nat} (h : LI z w A t) (ht : t ≤ 1500) (f : Nat → Int64) (xs : Nat → Int32) (i : Nat) : NX (lawC2 FU xs i f (up z) (up w)) (t + 2) := by
  have hF' : 140000 < FU := by omega
  have htk := h.xi.k
  obtain ⟨a1, b1, e1⟩ := i_nI (xs (i + 1))
  unfold lawC2
  rw [e1]
  have hm : JM (Mod_tape FU (nI a1) (up w)) 0 (tapeA a1 A) := by
    rcases h.mj with m | m
    · exact (mo_tape FU m b1).j
    · exact tape_f FU m b1
  obtain ⟨p, ep, y, rfl, hy⟩ := cl_tape (FU := FU) h.fi b1
  obtain ⟨q, eq, u, q1, q2, q3, hu⟩ := hm
  rw [ep, eq, Option.bind_some, Option.bind_some, q1, q3 rfl, if_pos rfl]
  exact Ev.ret ⟨y, u, _, rfl, rfl, hy, ai_tape h.ai, hu, xi_tape h.xi⟩
theorem st_3 {FU : Nat} (hF : 300000 < FU) {z w : NSt} {A : AB} {t : Nat} (h : LI z w A t) (ht : t ≤ 1500) (f : Nat → Int64) (xs : Nat → Int32) (i : Nat) : NX (lawC3 FU xs i f (up z) (up w)) (t + 2) := by
  have hF' : 140000 < FU := by omega
  have htk := h.xi.k
  obtain ⟨a1, b1, e1⟩ := i_nI (xs (i + 1))
  obtain ⟨a2, b2, e2⟩ := i_nI (xs (i + 2))
  unfold lawC3
  rw [e1, e2]
  have hm : JM (Mod_make FU (nI a1) (nI a2) (up w)) ((makeA 1 a1 a2 A).1) (makeA 1 a1 a2 A) := by
    rcases h.mj with m | m
    · exact (mo_make hF' (h.mh m) b1 b2).j
    · exact JM.eta (off_jm FU m _ (fun x => if_neg n1))
  exact (law_m FU (c := (makeA 1 a1 a2 A).1) (lf3 f (cl_make hF' h.fi h.ai (by omega) b1 b2) cd_make) hm (Nat.le_trans cd_make (by decide))).nx (ai_make h.ai h.fi.tfa h.fi.1.tl h.fi.1.tpb (by decide)) (xi_make h.xi h.fi.tfa)
theorem st_4 {FU : Nat} (hF : 300000 < FU) {z w : NSt} {A : AB} {t : Nat} (h : LI z w A t) (ht : t ≤ 1500) (f : Nat → Int64) (xs : Nat → Int32) (i : Nat) : NX (lawC4 FU xs i f (up z) (up w)) (t + 2) := by
  have hF' : 140000 < FU := by omega
  have htk := h.xi.k
  obtain ⟨a1, b1, e1⟩ := i_nI (xs (i + 1))
  obtain ⟨a2, b2, e2⟩ := i_nI (xs (i + 2))
  unfold lawC4
  rw [e1, e2]
  have hm : JM (Mod_makeDirectory FU (nI a1) (nI a2) (up w)) ((makeA 2 a1 a2 A).1) (makeA 2 a1 a2 A) := by
    rcases h.mj with m | m
    · exact (mo_mkdir hF' (h.mh m) b1 b2).j
    · exact JM.eta (off_jm FU m _ (fun x => if_neg n1))
  exact (law_m FU (c := (makeA 2 a1 a2 A).1) (lf3 f (cl_mkdir hF' h.fi h.ai (by omega) b1 b2) cd_make) hm (Nat.le_trans cd_make (by decide))).nx (ai_make h.ai h.fi.tfa h.fi.1.tl h.fi.1.tpb (by decide)) (xi_make h.xi h.fi.tfa)
theorem st_5 {FU : Nat} (hF : 300000 < FU) {z w : NSt} {A : AB} {t : Nat} (h : LI z w A t) (ht : t ≤ 1500) (f : Nat → Int64) (xs : Nat → Int32) (i : Nat) : NX (lawC5 FU xs i f (up z) (up w)) (t + 2) := by
  have hF' : 140000 < FU := by omega
  have htk := h.xi.k
  obtain ⟨a1, b1, e1⟩ := i_nI (xs (i + 1))
  obtain ⟨a2, b2, e2⟩ := i_nI (xs (i + 2))
  obtain ⟨a3, b3, e3⟩ := i_nI (xs (i + 3))
  unfold lawC5
  rw [e1, e2, e3]
  have hm : JM (Mod_link FU (nI a1) (nI a2) (nI a3) (up w)) ((linkA a1 a2 a3 A).1) (linkA a1 a2 a3 A) := by
    rcases h.mj with m | m
    · exact (mo_link hF' (h.mh m) b1 b2 b3).j
    · exact off_jm FU m _ (fun x => if_neg n1)
  exact (law_m FU (c := (linkA a1 a2 a3 A).1) (lf3 f (cl_link hF' h.fi h.ai (by omega) b1 b2 b3) cd_link) hm (Nat.le_trans cd_link (by decide))).nx (ai_link h.ai h.fi.tfa h.fi.1.tl h.fi.1.tpb) (xi_link h.xi h.fi.tfa)
theorem st_6 {FU : Nat} (hF : 300000 < FU) {z w : NSt} {A : AB} {t : Nat} (h : LI z w A t) (ht : t ≤ 1500) (f : Nat → Int64) (xs : Nat → Int32) (i : Nat) : NX (lawC6 FU xs i f (up z) (up w)) (t + 2) := by
  have hF' : 140000 < FU := by omega
  have htk := h.xi.k
  obtain ⟨a1, b1, e1⟩ := i_nI (xs (i + 1))
  obtain ⟨a2, b2, e2⟩ := i_nI (xs (i + 2))
  unfold lawC6
  rw [e1, e2]
  have hm : JM (Mod_unlink FU (nI a1) (nI a2) (up w)) ((unlinkA a1 a2 A).1) (unlinkA a1 a2 A) := by
    rcases h.mj with m | m
    · exact (mo_unlink hF' (h.mh m) b1 b2).j
    · exact off_jm FU m _ (fun x => if_neg n1)
  exact (law_m FU (c := (unlinkA a1 a2 A).1) (lf3 f (cl_unlink hF' h.fi h.ai (by omega) b1 b2) cd_unlink) hm (Nat.le_trans cd_unlink (by decide))).nx (ai_unlink h.ai h.fi.tfa) (xi_unlink h.xi h.fi.tfa)
theorem st_7 {FU : Nat} (hF : 300000 < FU) {z w : NSt} {A : AB} {t : Nat} (h : LI z w A t) (ht : t ≤ 1500) (f : Nat → Int64) (xs : Nat → Int32) (i : Nat) : NX (lawC7 FU xs i f (up z) (up w)) (t + 2) := by
  have hF' : 140000 < FU := by omega
  have htk := h.xi.k
  obtain ⟨a1, b1, e1⟩ := i_nI (xs (i + 1))
  obtain ⟨a2, b2, e2⟩ := i_nI (xs (i + 2))
  unfold lawC7
  rw [e1, e2]
  have hm : JV (Mod_removeDirectory FU (nI a1) (nI a2) (up w)) ((rmdirA a1 a2 A).1) (rmdirA a1 a2 A) := by
    rcases h.mj with m | m
    · exact (mo_rmdir hF' (h.mh m) b1 b2).j
    · exact off_jv FU m _ (fun x => if_neg n1)
  exact (law_v FU (c := (rmdirA a1 a2 A).1) (lv3 f (cl_rmdir hF' h.fi h.ai (by omega) b1 b2) cd_rmdir) hm).nx (ai_rmdir h.ai h.fi.tfa) (xi_rmdir h.xi h.fi.tfa)
theorem st_8 {FU : Nat} (hF : 300000 < FU) {z w : NSt} {A : AB} {t : Nat} (h : LI z w A t) (ht : t ≤ 1500) (f : Nat → Int64) (xs : Nat → Int32) (i : Nat) : NX (lawC8 FU xs i f (up z) (up w)) (t + 2) := by
  have hF' : 140000 < FU := by omega
  have htk := h.xi.k
  obtain ⟨a1, b1, e1⟩ := i_nI (xs (i + 1))
  obtain ⟨a2, b2, e2⟩ := i_nI (xs (i + 2))
  obtain ⟨a3, b3, e3⟩ := i_nI (xs (i + 3))
  obtain ⟨a4, b4, e4⟩ := i_nI (xs (i + 4))
  unfold lawC8
  rw [e1, e2, e3, e4]
  have hm : JV (Mod_rename FU (nI a1) (nI a2) (nI a3) (nI a4) (up w)) ((renA a1 a2 a3 a4 A).1) (renA a1 a2 a3 a4 A) := by
    rcases h.mj with m | m
    · exact (mo_rename hF' (h.mh m) b1 b2 b3 b4).j
    · exact off_jv FU m _ (fun x => if_neg n1)
  exact (law_v FU (c := (renA a1 a2 a3 a4 A).1) (lv3 f (cl_rename hF' h.fi h.ai (by omega) b1 b2 b3 b4) cd_rename) hm).nx (ai_rename h.ai h.fi.tfa h.fi.1.tl h.fi.1.tpb) (xi_rename h.xi h.fi.tfa)
theorem st_9 {FU : Nat} (hF : 300000 < FU) {z w : NSt} {A : AB} {t : Nat} (h : LI z w A t) (ht : t ≤ 1500) (f : Nat → Int64) (xs : Nat → Int32) (i : Nat) : NX (lawC9 FU xs i f (up z) (up w)) (t + 2) := by
  have hF' : 140000 < FU := by omega
  have htk := h.xi.k
  obtain ⟨a1, b1, e1⟩ := i_nI (xs (i + 1))
  obtain ⟨a2, b2, e2⟩ := i_nI (xs (i + 2))
  unfold lawC9
  rw [e1, e2]
  have hm : JM (Mod_find FU (nI a1) (nI a2) (up w)) ((findA a1 a2 A).1) (findA a1 a2 A) := by
    rcases h.mj with m | m
    · exact (mo_find hF' (h.mh m) b1 b2).j
    · exact off_jm FU m _ (fun x => if_neg n1)
  exact (law_m FU (c := (findA a1 a2 A).1) (lf2 f (cl_find hF' h.fi b1 b2) cd_find) hm (Nat.le_trans cd_find (by decide))).nx (ai_find h.ai) (xi_find h.xi)
theorem st_10 {FU : Nat} (hF : 300000 < FU) {z w : NSt} {A : AB} {t : Nat} (h : LI z w A t) (ht : t ≤ 1500) (f : Nat → Int64) (xs : Nat → Int32) (i : Nat) : NX (lawC10 FU xs i f (up z) (up w)) (t + 2) := by
  have hF' : 140000 < FU := by omega
  have htk := h.xi.k
  obtain ⟨a1, b1, e1⟩ := i_nI (xs (i + 1))
  obtain ⟨a2, b2, e2⟩ := i_nI (xs (i + 2))
  obtain ⟨a3, b3, e3⟩ := i_nI (xs (i + 3))
  unfold lawC10
  rw [e1, e2, e3]
  have hm : JM (Mod_write FU (nI a1) (nI a2) (nI a3) (up w)) ((writeA a1 a2 a3 A).1) (writeA a1 a2 a3 A) := by
    rcases h.mj with m | m
    · exact (mo_write hF' (h.mh m) b1 b2 b3).j
    · exact off_jm FU m _ (fun x => if_neg n1)
  exact (law_m FU (c := (writeA a1 a2 a3 A).1) (lf3 f (cl_write hF' h.fi h.ai (by omega) b1 b2 b3) cd_write) hm (Nat.le_trans cd_write (by decide))).nx (ai_write h.ai h.fi.tfa) (xi_write h.xi h.fi.tfa)
theorem st_11 {FU : Nat} (hF : 300000 < FU) {z w : NSt} {A : AB} {t : Nat} (h : LI z w A t) (ht : t ≤ 1500) (f : Nat → Int64) (xs : Nat → Int32) (i : Nat) : NX (lawC11 FU xs i f (up z) (up w)) (t + 2) := by
  have hF' : 140000 < FU := by omega
  have htk := h.xi.k
  obtain ⟨a1, b1, e1⟩ := i_nI (xs (i + 1))
  obtain ⟨a2, b2, e2⟩ := i_nI (xs (i + 2))
  obtain ⟨a3, b3, e3⟩ := i_nI (xs (i + 3))
  unfold lawC11
  rw [e1, e2, e3]
  have hm : JM (Mod_read FU (nI a1) (nI a2) (nI a3) (up w)) ((readA a1 a2 a3 A).1) (readA a1 a2 a3 A) := by
    rcases h.mj with m | m
    · exact (mo_read hF' (h.mh m) b1 b2 b3).j
    · exact off_jm FU m _ (fun x => if_neg n1)
  exact (law_m FU (c := (readA a1 a2 a3 A).1) (lf2 f (cl_read hF' h.fi b1 b2 b3) cd_read) hm (Nat.le_trans cd_read (by decide))).nx (ai_read h.ai) (xi_read h.xi)
theorem st_12 {FU : Nat} (hF : 300000 < FU) {z w : NSt} {A : AB} {t : Nat} (h : LI z w A t) (ht : t ≤ 1500) (f : Nat → Int64) (xs : Nat → Int32) (i : Nat) : NX (lawC12 FU xs i f (up z) (up w)) (t + 2) := by
  have hF' : 140000 < FU := by omega
  have htk := h.xi.k
  obtain ⟨a1, b1, e1⟩ := i_nI (xs (i + 1))
  unfold lawC12
  rw [e1]
  have hm : JM (Mod_byteAt FU (nI a1) (up w)) ((byteA a1 A).1) (byteA a1 A) := by
    rcases h.mj with m | m
    · exact (mo_byte FU m b1).j
    · exact byte_f FU m b1
  exact (law_m FU (c := (byteA a1 A).1) (lf1 f (cl_byte h.fi b1) cd_byte) hm (Nat.le_trans cd_byte (by decide))).nx (ai_byte h.ai) (xi_byte h.xi)
theorem st_13 {FU : Nat} (hF : 300000 < FU) {z w : NSt} {A : AB} {t : Nat} (h : LI z w A t) (ht : t ≤ 1500) (f : Nat → Int64) (xs : Nat → Int32) (i : Nat) : NX (lawC13 FU xs i f (up z) (up w)) (t + 2) := by
  have hF' : 140000 < FU := by omega
  have htk := h.xi.k
  obtain ⟨a1, b1, e1⟩ := i_nI (xs (i + 1))
  obtain ⟨a2, b2, e2⟩ := i_nI (xs (i + 2))
  unfold lawC13
  rw [e1, e2]
  have hm : JV (Mod_truncate FU (nI a1) (nI a2) (up w)) ((truncA a1 a2 A).1) (truncA a1 a2 A) := by
    rcases h.mj with m | m
    · exact (mo_trunc hF' (h.mh m) b1 b2).j
    · exact off_jv FU m _ (fun x => if_neg n1)
  exact (law_v FU (c := (truncA a1 a2 A).1) (lv3 f (cl_trunc hF' h.fi h.ai (by omega) b1 b2) cd_trunc) hm).nx (ai_trunc h.ai h.fi.tfa) (xi_trunc h.xi h.fi.tfa)
theorem st_14 {FU : Nat} (hF : 300000 < FU) {z w : NSt} {A : AB} {t : Nat} (h : LI z w A t) (ht : t ≤ 1500) (f : Nat → Int64) (xs : Nat → Int32) (i : Nat) : NX (lawC14 FU xs i f (up z) (up w)) (t + 2) := by
  have hF' : 140000 < FU := by omega
  have htk := h.xi.k
  obtain ⟨a1, b1, e1⟩ := i_nI (xs (i + 1))
  unfold lawC14
  rw [e1]
  have hm : JM (Mod_fsync FU (nI a1) (up w)) ((fsyncA a1 A).1) (fsyncA a1 A) := by
    rcases h.mj with m | m
    · exact (mo_fsync hF' (h.mh m) b1).j
    · exact off_jm FU m _ (fun x => if_neg n1)
  exact (law_m FU (c := (fsyncA a1 A).1) (lf3 f (cl_fsync hF' h.fi h.ai (by omega) b1) cd_fsync) hm (Nat.le_trans cd_fsync (by decide))).nx (ai_fsync h.ai h.fi.tfa) (xi_fsync h.xi h.fi.tfa)
theorem st_15 {FU : Nat} (hF : 300000 < FU) {z w : NSt} {A : AB} {t : Nat} (h : LI z w A t) (ht : t ≤ 1500) (f : Nat → Int64) (xs : Nat → Int32) (i : Nat) : NX (lawC15 FU xs i f (up z) (up w)) (t + 2) := by
  have hF' : 140000 < FU := by omega
  have htk := h.xi.k
  unfold lawC15
  have hm : JM (Mod_sync FU (up w)) (if A.dv = 2 then (if A.ct = 1 then 2 else 0) else 1) (syncA A) := by
    rcases h.mj with m | m
    · exact (mo_sync hF' m h.fi.tfa).j
    · exact pwo_j FU m _ (K := Mod_sync_b13 FU) (by unfold Mod_sync_b13; rw [th10, Option.bind_some, if_neg n1])
  exact (law_m FU (c := if A.dv = 2 then (if A.ct = 1 then 2 else 0) else 1) (lfs f (cl_sync hF' h.fi h.ai (by omega)) cd_sync) hm (by rcases cd_sync (A := A) with q | q | q <;> rw [q.2] <;> decide)).nx (ai_sync h.ai h.fi.tfa) (xi_sync h.xi h.fi.tfa)
theorem st_16 {FU : Nat} (hF : 300000 < FU) {z w : NSt} {A : AB} {t : Nat} (h : LI z w A t) (ht : t ≤ 1500) (f : Nat → Int64) (xs : Nat → Int32) (i : Nat) : NX (lawC16 FU xs i f (up z) (up w)) (t + 2) := by
  have hF' : 140000 < FU := by omega
  have htk := h.xi.k
  obtain ⟨a1, b1, e1⟩ := i_nI (xs (i + 1))
  obtain ⟨a2, b2, e2⟩ := i_nI (xs (i + 2))
  unfold lawC16
  rw [e1, e2]
  have hm : JM (Mod_name FU (nI a1) (nI a2) (up w)) ((nameA a1 a2 A).1) (nameA a1 a2 A) := by
    rcases h.mj with m | m
    · exact (mo_name hF' (h.mh m) b1 b2).j
    · exact off_jm FU m _ (fun x => if_neg n1)
  exact (law_m FU (c := (nameA a1 a2 A).1) (lf2 f (cl_name hF' h.fi b1 b2) cd_name) hm (Nat.le_trans cd_name (by decide))).nx (ai_name h.ai) (xi_name h.xi)
theorem st_17 {FU : Nat} (hF : 300000 < FU) {z w : NSt} {A : AB} {t : Nat} (h : LI z w A t) (ht : t ≤ 1500) (f : Nat → Int64) (xs : Nat → Int32) (i : Nat) : NX (lawC17 FU xs i f (up z) (up w)) (t + 2) := by
  have hF' : 140000 < FU := by omega
  have htk := h.xi.k
  obtain ⟨a1, b1, e1⟩ := i_nI (xs (i + 1))
  obtain ⟨a2, b2, e2⟩ := i_nI (xs (i + 2))
  unfold lawC17
  rw [e1, e2]
  have hm : JM (Mod_look FU (nI a1) (nI a2) (up w)) ((lookA a1 a2 A).1) (lookA a1 a2 A) := by
    rcases h.mj with m | m
    · exact (mo_look hF' (h.mh m) b1 b2).j
    · exact off_jm FU m _ (fun x => if_neg n1)
  exact (law_m FU (c := (lookA a1 a2 A).1) (lf2 f (cl_look h.fi b1 b2) cd_look) hm (Nat.le_trans cd_look (by decide))).nx (ai_look h.ai) (xi_look h.xi)
theorem st_18 {FU : Nat} (hF : 300000 < FU) {z w : NSt} {A : AB} {t : Nat} (h : LI z w A t) (ht : t ≤ 1500) (f : Nat → Int64) (xs : Nat → Int32) (i : Nat) : NX (lawC18 FU xs i f (up z) (up w)) (t + 2) := by
  have hF' : 140000 < FU := by omega
  have htk := h.xi.k
  obtain ⟨a1, b1, e1⟩ := i_nI (xs (i + 1))
  unfold lawC18
  rw [e1]
  have hm : JM (Mod_count FU (nI a1) (up w)) ((countA a1 A).1) (countA a1 A) := by
    rcases h.mj with m | m
    · exact (mo_count hF' (h.mh m) b1).j
    · exact off_jm FU m _ (fun x => if_neg n1)
  exact (law_m FU (c := (countA a1 A).1) (lf2 f (cl_count hF' h.fi b1) cd_count) hm (Nat.le_trans cd_count (by decide))).nx (ai_count h.ai) (xi_count h.xi)
theorem st_19 {FU : Nat} (hF : 300000 < FU) {z w : NSt} {A : AB} {t : Nat} (h : LI z w A t) (ht : t ≤ 1500) (f : Nat → Int64) (xs : Nat → Int32) (i : Nat) : NX (lawC19 FU xs i f (up z) (up w)) (t + 2) := by
  have hF' : 140000 < FU := by omega
  have htk := h.xi.k
  unfold lawC19
  have hm : JV (Mod_power FU (up w)) (if A.dv = 2 then 0 else 1) (powerA A) := by
    rcases h.mj with m | m
    · exact (mo_power FU m).j
    · exact pwo_k FU m _ (K := Mod_power_b13 FU) (by unfold Mod_power_b13; rw [th10, Option.bind_some, if_neg n1])
  exact (law_v FU (c := if A.dv = 2 then 0 else 1) (lvo f (cl_power hF' h.fi) (cd_po rfl)) hm).nx (ai_power h.ai) (xi_power h.xi)
theorem st_20 {FU : Nat} (hF : 300000 < FU) {z w : NSt} {A : AB} {t : Nat} (h : LI z w A t) (ht : t ≤ 1500) (f : Nat → Int64) (xs : Nat → Int32) (i : Nat) : NX (lawC20 FU xs i f (up z) (up w)) (t + 2) := by
  have hF' : 140000 < FU := by omega
  have htk := h.xi.k
  obtain ⟨a1, b1, e1⟩ := i_nI (xs (i + 1))
  unfold lawC20
  rw [e1]
  have hm : JV (Mod_cut FU (nI a1) (up w)) (if A.dv = 2 then 0 else 1) (cutcA a1 A) := by
    rcases h.mj with m | m
    · exact (mo_cut FU m b1).j
    · exact pwo_k FU m _ (K := Mod_cut_b13 FU (nI a1)) (by unfold Mod_cut_b13; rw [th10, Option.bind_some, if_neg n1])
  exact (law_v FU (c := if A.dv = 2 then 0 else 1) (lvo f (cl_cut h.fi b1) (cd_po rfl)) hm).nx (ai_cutc h.ai) (xi_cut h.xi)
theorem st_21 {FU : Nat} (hF : 300000 < FU) {z w : NSt} {A : AB} {t : Nat} (h : LI z w A t) (ht : t ≤ 1500) (f : Nat → Int64) (xs : Nat → Int32) (i : Nat) : NX (lawC21 FU xs i f (up z) (up w)) (t + 2) := by
  have hF' : 140000 < FU := by omega
  have htk := h.xi.k
  unfold lawC21
  have hm : JM (Mod_mount FU (up w)) (ofC (mountA A).1) (mountA A) := by
    rcases h.mj with m | m
    · exact (mo_mount hF' m h.ai h.fi.rfa).j
    · exact mount_f FU m
  exact (law_m FU (c := ofC (mountA A).1) (lfo f (cl_mount hF' h.fi h.ai (by omega)) cd_mount) hm (by rcases cd_mount (A := A) with q | q <;> omega)).nx (ai_mount h.ai h.fi.rfa) (xi_mount h.xi h.fi.rfa)
theorem st_22 {FU : Nat} (hF : 300000 < FU) {z w : NSt} {A : AB} {t : Nat} (h : LI z w A t) (ht : t ≤ 1500) (f : Nat → Int64) (xs : Nat → Int32) (i : Nat) : NX (lawC22 FU xs i f (up z) (up w)) (t + 2) := by
  have hF' : 140000 < FU := by omega
  have htk := h.xi.k
  unfold lawC22
  have hm : JV (Mod_clean FU (up w)) (if A.dv = 2 then 0 else 1) (cleanA A) := by
    rcases h.mj with m | m
    · exact (mo_clean FU m).j
    · exact pwo_k FU m _ (K := Mod_clean_b13 FU) (by unfold Mod_clean_b13; rw [th10, Option.bind_some])
  exact (law_v FU (c := if A.dv = 2 then 0 else 1) (lvo f (cl_clean hF' h.fi h.ai (by omega)) (cd_po rfl)) hm).nx (ai_clean h.ai) (xi_clean h.xi)
theorem st_23 {FU : Nat} (hF : 300000 < FU) {z w : NSt} {A : AB} {t : Nat} (h : LI z w A t) (ht : t ≤ 1500) (f : Nat → Int64) (xs : Nat → Int32) (i : Nat) : NX (lawC23 FU xs i f (up z) (up w)) (t + 2) := by
  have hF' : 140000 < FU := by omega
  have htk := h.xi.k
  unfold lawC23
  have hm : JM (Mod_faults FU (up w)) (if A.dv = 2 then 0 else 1) (faultsA A) := by
    rcases h.mj with m | m
    · exact (mo_faults FU m).j
    · exact pwo_j FU m _ (K := Mod_faults_b13 FU) (by unfold Mod_faults_b13; rw [th10, Option.bind_some])
  exact (law_m FU (c := if A.dv = 2 then 0 else 1) (lfo f (cl_faults hF' h.fi h.ai (by omega)) (cd_po rfl)) hm (by split <;> decide)).nx (ai_faults h.ai) (xi_faults h.xi)
theorem st_all {FU : Nat} (hF : 300000 < FU) {z w : NSt} {A : AB} {t : Nat} (h : LI z w A t) (ht : t ≤ 1500) (f : Nat → Int64) (xs : Nat → Int32) (i : Nat) : NX (lawStep FU xs i f (up z) (up w)) (t + 2) := by
  unfold lawStep
  by_cases c0 : xs i &&& 31 = 0
  · rw [if_pos c0]; exact st_0 hF h ht f xs i
  rw [if_neg c0]
  by_cases c1 : xs i &&& 31 = 1
  · rw [if_pos c1]; exact st_1 hF h ht f xs i
  rw [if_neg c1]
  by_cases c2 : xs i &&& 31 = 2
  · rw [if_pos c2]; exact st_2 hF h ht f xs i
  rw [if_neg c2]
  by_cases c3 : xs i &&& 31 = 3
  · rw [if_pos c3]; exact st_3 hF h ht f xs i
  rw [if_neg c3]
  by_cases c4 : xs i &&& 31 = 4
  · rw [if_pos c4]; exact st_4 hF h ht f xs i
  rw [if_neg c4]
  by_cases c5 : xs i &&& 31 = 5
  · rw [if_pos c5]; exact st_5 hF h ht f xs i
  rw [if_neg c5]
  by_cases c6 : xs i &&& 31 = 6
  · rw [if_pos c6]; exact st_6 hF h ht f xs i
  rw [if_neg c6]
  by_cases c7 : xs i &&& 31 = 7
  · rw [if_pos c7]; exact st_7 hF h ht f xs i
  rw [if_neg c7]
  by_cases c8 : xs i &&& 31 = 8
  · rw [if_pos c8]; exact st_8 hF h ht f xs i
  rw [if_neg c8]
  by_cases c9 : xs i &&& 31 = 9
  · rw [if_pos c9]; exact st_9 hF h ht f xs i
  rw [if_neg c9]
  by_cases c10 : xs i &&& 31 = 10
  · rw [if_pos c10]; exact st_10 hF h ht f xs i
  rw [if_neg c10]
  by_cases c11 : xs i &&& 31 = 11
  · rw [if_pos c11]; exact st_11 hF h ht f xs i
  rw [if_neg c11]
  by_cases c12 : xs i &&& 31 = 12
  · rw [if_pos c12]; exact st_12 hF h ht f xs i
  rw [if_neg c12]
  by_cases c13 : xs i &&& 31 = 13
  · rw [if_pos c13]; exact st_13 hF h ht f xs i
  rw [if_neg c13]
  by_cases c14 : xs i &&& 31 = 14
  · rw [if_pos c14]; exact st_14 hF h ht f xs i
  rw [if_neg c14]
  by_cases c15 : xs i &&& 31 = 15
  · rw [if_pos c15]; exact st_15 hF h ht f xs i
  rw [if_neg c15]
  by_cases c16 : xs i &&& 31 = 16
  · rw [if_pos c16]; exact st_16 hF h ht f xs i
  rw [if_neg c16]
  by_cases c17 : xs i &&& 31 = 17
  · rw [if_pos c17]; exact st_17 hF h ht f xs i
  rw [if_neg c17]
  by_cases c18 : xs i &&& 31 = 18
  · rw [if_pos c18]; exact st_18 hF h ht f xs i
  rw [if_neg c18]
  by_cases c19 : xs i &&& 31 = 19
  · rw [if_pos c19]; exact st_19 hF h ht f xs i
  rw [if_neg c19]
  by_cases c20 : xs i &&& 31 = 20
  · rw [if_pos c20]; exact st_20 hF h ht f xs i
  rw [if_neg c20]
  by_cases c21 : xs i &&& 31 = 21
  · rw [if_pos c21]; exact st_21 hF h ht f xs i
  rw [if_neg c21]
  by_cases c22 : xs i &&& 31 = 22
  · rw [if_pos c22]; exact st_22 hF h ht f xs i
  rw [if_neg c22]
  by_cases c23 : xs i &&& 31 = 23
  · rw [if_pos c23]; exact st_23 hF h ht f xs i
  rw [if_neg c23]
  exact Ev.ret ⟨z, w, A, rfl, rfl, h.fi, h.ai, h.mj, h.xi.le (by omega)⟩
theorem run_all {FU : Nat} (hF : 300000 < FU) (xs : Nat → Int32) : ∀ (k i t : Nat) (f : Nat → Int64) (z w : NSt) (A : AB), LI z w A t → t + 2 * k ≤ 1500 → lawRun FU xs k i f (up z) (up w) = some () := by
  intro k
  induction k with
  | zero =>
    intro i t f z w A h ht
    rfl
  | succ k ih =>
    intro i t f z w A h ht
    obtain ⟨r, er, y, u, B, r1, r2, hB⟩ := st_all hF h (by omega) f xs i
    unfold lawRun
    rw [er, Option.bind_some, r1, r2]
    exact ih (i + 6) (t + 2) r.1 y u B hB (by omega)
