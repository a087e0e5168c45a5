/-! the model: rename, the call -/
theorem mo_rename {FU : Nat} (hF : 140000 < FU) {w : NSt} {A : AB} (h : MH w A) {d n o m : Nat} (hd' : d < 2 ^ 32) (hn : n < 2 ^ 32) (ho' : o < 2 ^ 32) (hm : m < 2 ^ 32) : AnsV (Mod_rename FU (nI d) (nI n) (nI o) (nI m) (up w)) (renA d n o m A).1 (renA d n o m A) := by
  unfold Mod_rename renA
  refine off_v FU h.mi (fun x => if_neg n1) (fun hd hx x0 => ?_)
  obtain ⟨x, ex⟩ : ∃ x, x = thw w 0 := ⟨_, rfl⟩
  rw [← ex] at hx x0 ⊢
  have hA := h.tt hd
  have hT := hA.t
  have bad1 : AnsV (Mod_rename_b45 FU (nI d) (nI n) (nI o) (nI m) (up x)) 1 (1, 0, A.w_tl 0) := by
    unfold Mod_rename_b45 Mod_rename_b50 Mod_rename_b68 Mod_rename_b87 Mod_rename_b107 Mod_rename_b112 Mod_done
    rw [if_neg (show ¬ (1 : Int32) = 0 by decide), if_neg (show ¬ (1 : Int32) = 0 by decide), if_neg (show ¬ (1 : Int32) = 0 by decide), nx_eq, show (0 : Int32) = nI 0 from rfl, up_I, Option.bind_some]
    exact thr_v FU hx.tl0 (a := 1) (b := 1) (by decide) (by decide) (fun x => if_neg n1) (fun _ => rfl) (fun q => by cases q) (fun q => by cases q)
  have bad2 : ∀ a b : Int32, AnsV (Mod_rename_b107 FU (nI n) (nI o) (nI m) (nI 0) a b (up x)) 2 (2, 0, A.w_tl 0) := fun a b => by
    unfold Mod_rename_b107 Mod_rename_b112 Mod_done
    rw [nx_eq, show (0 : Int32) = nI 0 from rfl, up_I, Option.bind_some]
    exact thr_v FU hx.tl0 (a := 0) (b := 1) (by decide) (by decide) (fun x => if_neg n1) (fun q => by cases q) (fun _ _ => rfl) (fun _ q => by cases q)
  have badc : ¬ (nmOk A.tp A.tl 0 n = true ∧ nmOk A.tp A.tl n m = true ∧ A.T.kd d = 2 ∧ A.T.kd o = 2) → ∀ r : ANS, AnsV (Mod_rename_b45 FU (nI d) (nI n) (nI o) (nI m) (up x)) (if ¬ (nmOk A.tp A.tl 0 n = true ∧ nmOk A.tp A.tl n m = true ∧ A.T.kd d = 2 ∧ A.T.kd o = 2) then (1, 0, A.w_tl 0) else r).1 (if ¬ (nmOk A.tp A.tl 0 n = true ∧ nmOk A.tp A.tl n m = true ∧ A.T.kd d = 2 ∧ A.T.kd o = 2) then (1, 0, A.w_tl 0) else r) := fun q r => by
    rw [if_pos q]; exact bad1
  rw [if_pos i00, show (2 : Int32) = nI 2 from rfl, is_z FU hx hT hd' (by decide), Option.bind_some]
  by_cases c1 : A.T.kd d = 2
  · rw [if_pos c1, if_neg n1, is_z FU hx hT ho' (by decide), Option.bind_some]
    by_cases c2 : A.T.kd o = 2
    · rw [if_pos c2, if_neg n1, show (0 : Int32) = nI 0 from rfl, moName_z hF hx (by decide) hn, Option.bind_some]
      by_cases c3 : nmOk A.tp A.tl 0 n = true
      · obtain ⟨q1, q2, q3⟩ := nmOk_le c3
        rw [if_pos c3, if_neg (show ¬ nI 1 = nI 0 by decide), moName_z hF hx q2 hm, Option.bind_some]
        by_cases c4 : nmOk A.tp A.tl n m = true
        · rw [if_pos c4, if_neg (show ¬ nI 1 = nI 0 by decide), if_neg (show ¬ ¬ (nmOk A.tp A.tl 0 n = true ∧ nmOk A.tp A.tl n m = true ∧ A.T.kd d = 2 ∧ A.T.kd o = 2) from fun q => q ⟨c3, c4, c1, c2⟩)]
          unfold Mod_rename_b50
          rw [if_pos i00, show (0 : Int32) = nI 0 from rfl]
          have hE := hx.en.le
          have hs2 := seek_z hF hx ho' c4
          obtain ⟨nm2, en2⟩ : ∃ q, q = nmN A.tp n m := ⟨_, rfl⟩
          rw [← en2] at hs2 ⊢
          rcases seek_z hF hx hd' c3 with ⟨a, a1, a2, a3, a4, a5, a6⟩ | ⟨a1, a2⟩
          · obtain ⟨nm1, en1⟩ : ∃ q, q = nmN A.tp 0 n := ⟨_, rfl⟩
            rw [← en1] at a3 a4 a5 ⊢
            obtain ⟨id, eid⟩ : ∃ q, q = A.T.ent d nm1 := ⟨_, rfl⟩
            rw [← eid] at a4 a5 ⊢
            have id2 : id ≤ 250 := by
              have := (hx.en.en a a1).2.2
              omega
            obtain ⟨rf0, rf1⟩ := refused_z hF hx h.ai.tw hT hd' ho' c2 a1 a4
            rw [a6, Option.bind_some]
            unfold Mod_rename_b68
            rw [if_pos i00]
            -- what is done once nothing refuses
            have act : ∀ (b : Int32) (k : AB → ANS), (∀ z, MI z (rsvB 8 (A.w_tl 0)) → AI (rsvB 8 (A.w_tl 0)) 8 → AT (rsvB 8 (A.w_tl 0)) → (rsvB 8 (A.w_tl 0)).T = A.T → (rsvB 8 (A.w_tl 0)).tp = A.tp → z.1 0 = 0 → SE z x → AnsV ((rdA 2400 (up z) 12 (nI a)).bind fun v12 => (if b < 0 then Mod_rename_b166 FU (nI n) (nI o) (nI m) (nI a) b v12 (up z) else (rdA 2400 (up z) 12 b).bind fun v13 => (if v13 = v12 then some (up z) else Mod_rename_b166 FU (nI n) (nI o) (nI m) (nI a) b v12 (up z)))) (k (rsvB 8 (A.w_tl 0))).1 (k (rsvB 8 (A.w_tl 0)))) → AnsV (Mod_rename_b112 FU (nI n) (nI o) (nI m) (nI 0) (nI a) b (0 : Int32) (up x)) (rsvA 8 (A.w_tl 0) k).1 (rsvA 8 (A.w_tl 0) k) := fun b k hk => by
              unfold Mod_rename_b112 Mod_done
              rw [nx_eq, show (0 : Int32) = nI 0 from rfl, up_I, Option.bind_some]
              obtain ⟨r, er⟩ : ∃ r, r = rsvA 8 (A.w_tl 0) k := ⟨_, rfl⟩
              rw [← er]
              refine thr_v FU hx.tl0 (a := 0) (b := 0) (by decide) (by decide) (fun x => if_neg n1) (fun q => by cases q) (fun _ q => by cases q) (fun _ _ hy y0 => ?_)
              rw [if_pos rfl, er]
              refine stp_v hF hy hd hT (h.ai.tl 0) (h.ub hd) (n := 8) (by decide) (fun x => if_neg n1) (fun r0 z hz z0 ze => ?_)
              rw [if_pos rfl]
              exact hk z hz (((h.ai.tl 0).rsv (A := A.w_tl 0) hT 8).1 r0) ((hA.tl 0).rsv 8) (rsvB_T 8 (A.w_tl 0)) (rsvB_tp 8 (A.w_tl 0)) z0 (ze.trans (SE.z9 x 0))
            rcases hs2 with ⟨b, b1, b2, b3, b4, b5, b6⟩ | ⟨b1, b2⟩
            · obtain ⟨lost, el⟩ : ∃ q, q = A.T.ent o nm2 := ⟨_, rfl⟩
              rw [← el] at b4 b5 ⊢
              have lo2 : lost ≤ 250 := by
                have := (hx.en.en b b1).2.2
                omega
              rw [b6, Option.bind_some]
              unfold Mod_rename_b87
              rw [if_pos i00]
              unfold renA2
              -- the same file: nothing moves
              have same : id = lost → AnsV (Mod_rename_b112 FU (nI n) (nI o) (nI m) (nI 0) (nI a) (nI b) (0 : Int32) (up x)) (rsvA 8 (A.w_tl 0) (fun B => (0, 0, B))).1 (rsvA 8 (A.w_tl 0) (fun B => (0, 0, B))) := fun e => by
                refine act (nI b) _ (fun z hz _ _ _ _ z0 ze => ?_)
                rw [rdA_z z 12 (by omega) (by decide), Option.bind_some, if_neg (show ¬ nI b < (0 : Int32) from nI_nlt (Nat.zero_le _) (by omega)), rdA_z z 12 (by omega) (by decide), Option.bind_some, ze.2 12 (by decide) (by decide), a4, b4, if_pos (by rw [e])]
                exact AnsV.mk hz z0
              by_cases ab : b = a
              · have e : id = lost := by rw [← a4, ← b4, ab]
                rw [if_pos (show id ≠ 0 ∧ id = lost from ⟨a5, e⟩)]
                have rf : Mod_isRefused FU (nI a) (nI b) (nI d) (nI o) (up x) = some (nI 0) := by
                  unfold Mod_isRefused
                  rw [if_pos (show (0 : Int32) ≤ nI a from nI_le (Nat.zero_le _) (by omega)), ab, if_pos rfl]
                  rfl
                rw [rf, Option.bind_some, if_pos i00]
                exact same e
              · obtain ⟨v, v1, v2, v3⟩ := rf1 b lost b1 ab b4
                rw [v2, Option.bind_some]
                by_cases e : id = lost
                · have nr : ¬ refA A.T d o id lost := fun q => by
                    have k2 : A.T.kd id ≠ 2 := fun k2 => by
                      obtain ⟨g1, g2⟩ := dir_one h.ai.tw hT k2 eid.symm (by rw [e]; exact el.symm)
                      exact ab (hx.en.dis b a b1 a1 (by rw [b2, a2, g1]) (by rw [b3, a3, g2]))
                    rcases q with q | q | q
                    · rcases q.2 with r | r
                      · exact r (by rw [e])
                      · exact k2 (by rw [e]; exact r.1)
                    · exact b5 q.1
                    · exact k2 q.1
                  have v0 : v = 0 := by
                    have : ¬ v = 1 := fun q => nr (v3.mp q)
                    omega
                  rw [v0, if_pos i00, if_pos (show id ≠ 0 ∧ id = lost from ⟨a5, e⟩)]
                  exact same e
                · rw [if_neg (show ¬ (id ≠ 0 ∧ id = lost) from fun q => e q.2)]
                  by_cases r : refA A.T d o id lost
                  · have r' := r
                    unfold refA at r'
                    rw [v3.mpr r, if_neg n1, if_pos (Or.inr r')]
                    exact bad2 _ _
                  · have v0 : v = 0 := by
                      have : ¬ v = 1 := fun q => r (v3.mp q)
                      omega
                    have r' := r
                    unfold refA at r'
                    rw [v0, if_pos i00, if_neg (fun q => by
                      rcases q with q | q
                      · exact a5 q
                      · exact r' q)]
                    refine act (nI b) _ (fun z hz hB hBt bT bp z0 ze => ?_)
                    rw [rdA_z z 12 (by omega) (by decide), Option.bind_some, if_neg (show ¬ nI b < (0 : Int32) from nI_nlt (Nat.zero_le _) (by omega)), rdA_z z 12 (by omega) (by decide), Option.bind_some, ze.2 12 (by decide) (by decide), a4, b4, if_neg (fun q => e ((nI_inj (by omega) (by omega)).mp q).symm)]
                    obtain ⟨B, eB⟩ : ∃ B, B = rsvB 8 (A.w_tl 0) := ⟨_, rfl⟩
                    rw [← eB] at hz hB hBt bT bp ⊢
                    have kl : B.T.kd lost = 1 ∨ B.T.kd lost = 2 := by
                      have q : B.T.kd (B.T.ent o nm2) ≠ 0 := (hB.tw.tg o nm2 (by rw [bT, ← el]; exact b5)).1
                      rw [bT, ← el] at q
                      have := (hT.rng lost q).2.2
                      rw [bT]
                      exact this
                    have hll : B.T.kd lost = 1 → 1 ≤ B.T.lk lost ∧ B.T.lk lost < 2 ^ 31 := fun q => ⟨lk_pos hB.tw hBt.t (d := o) (n := nm2) (by rw [bT]; exact el.symm) q, by
                      have := hB.lkb hBt.t q
                      omega⟩
                    refine (ren166_l hF hz (d := d) (n1 := nm1) (o := o) (n2 := nm2) (nI n) (nI o) (nI m) (by rw [ze.1]; exact a1) (by rw [ze.2 11 (by decide) (by decide)]; exact a2) (by rw [ze.nm]; exact a3) (by rw [ze.2 12 (by decide) (by decide)]; exact a4) (by rw [ze.1]; exact b1) (by rw [ze.2 11 (by decide) (by decide)]; exact b2) (by rw [ze.nm]; exact b3) (by rw [ze.2 12 (by decide) (by decide)]; exact b4) (Ne.symm ab) e kl hll).mono ?_
                    rintro _ ⟨y, rfl, hy, y0⟩
                    refine ⟨y, rfl, by rw [y0, z0], ?_⟩
                    show MI y ((B.w_T (B.T.ren d nm1 o nm2 id lost)).w_rn (va_up (if lost = 0 then B.rn else va_up B.rn lost true) id true))
                    rw [if_neg b5]
                    exact hy
            · rw [b2, Option.bind_some, b1]
              unfold Mod_rename_b87
              rw [if_pos i00]
              unfold renA2
              obtain ⟨v, v1, v2, v3⟩ := rf0
              rw [v2, Option.bind_some, if_neg (show ¬ (id ≠ 0 ∧ id = 0) from fun q => q.1 q.2)]
              by_cases r : refA A.T d o id 0
              · have r' := r
                unfold refA at r'
                rw [v3.mpr r, if_neg n1, if_pos (Or.inr r')]
                exact bad2 _ _
              · have v0 : v = 0 := by
                  have : ¬ v = 1 := fun q => r (v3.mp q)
                  omega
                have r' := r
                unfold refA at r'
                rw [v0, if_pos i00, if_neg (fun q => by
                  rcases q with q | q
                  · exact a5 q
                  · exact r' q)]
                refine act (-1 : Int32) _ (fun z hz hB hBt bT bp z0 ze => ?_)
                rw [rdA_z z 12 (by omega) (by decide), Option.bind_some, if_pos (show (-1 : Int32) < 0 by decide), ze.2 12 (by decide) (by decide), a4]
                obtain ⟨B, eB⟩ : ∃ B, B = rsvB 8 (A.w_tl 0) := ⟨_, rfl⟩
                rw [← eB] at hz hB hBt bT bp ⊢
                obtain ⟨or1, or2, -⟩ := hT.rng o (by rw [c2]; decide)
                refine (ren166_n hF hz (d := d) (n1 := nm1) (tl' := A.tl) (n2 := nm2) (by rw [ze.1]; exact a1) (by rw [ze.2 11 (by decide) (by decide)]; exact a2) (by rw [ze.nm]; exact a3) (by rw [ze.2 12 (by decide) (by decide)]; exact a4) (by omega) (by rw [bp]; exact c4) hx.tl.2 (by rw [bp]; exact en2) (by rw [bT]; exact b1)).mono ?_
                rintro _ ⟨y, rfl, hy, y0⟩
                exact ⟨y, rfl, by rw [y0, z0], hy⟩
          · rw [a1, a2, Option.bind_some]
            have fin : ∀ b : Int32, AnsV (Mod_rename_b87 FU (nI d) (nI n) (nI o) (nI m) (nI 0) (-1 : Int32) b (up x)) 2 (2, 0, A.w_tl 0) := fun b => by
              unfold Mod_rename_b87 Mod_isRefused
              rw [if_pos i00, if_neg (show ¬ (0 : Int32) ≤ (-1 : Int32) by decide), Option.bind_some, if_neg (show ¬ (1 : Int32) = 0 by decide)]
              exact bad2 _ _
            unfold Mod_rename_b68 renA2
            rw [if_pos i00, if_neg (show ¬ ((0 : Nat) ≠ 0 ∧ 0 = A.T.ent o nm2) from fun q => q.1 rfl), if_pos (Or.inl rfl)]
            rcases hs2 with ⟨b, -, -, -, -, -, b6⟩ | ⟨-, b2⟩
            · rw [b6, Option.bind_some]; exact fin _
            · rw [b2, Option.bind_some]; exact fin _
        · rw [if_neg c4, if_pos rfl]
          exact badc (fun q => c4 q.2.1) _
      · rw [if_neg c3, if_pos rfl]
        exact badc (fun q => c3 q.1) _
    · rw [if_neg c2, if_pos i00]
      exact badc (fun q => c2 q.2.2.2) _
  · rw [if_neg c1, if_pos i00]
    exact badc (fun q => c1 q.2.2.1) _
