theorem ki_Law_92 : kI "FlashFilesLaw" 92 ⟨"FlashFiles", "<init>", "()V"⟩ prog_1_method_1_code 1 0 := ⟨by decide +kernel, rfl, q1_31, q1_32, q1_1, q1_33⟩
theorem ki_Law_95 : kI "FlashFilesLaw" 95 ⟨"FlashFilesModel", "<init>", "()V"⟩ prog_12_method_1_code 1 0 := ⟨by decide +kernel, rfl, q7_136, q7_137, q1_11, q7_138⟩
set_option maxHeartbeats 4000000 in
set_option maxRecDepth 100000 in
theorem law_in {p : Program} {l : Launch} {e : Env} {s : State} {m : MethodId} {below : List Frame} {meth : Method} {c : Code} {D : va_G} {A : Nat → Prop} {FU b L k : Nat} {xs : Nat → Int32} (X : FX p s m meth c code 7 ret "FlashFilesLaw" D [] A) (hZ : ZS A s) (hN : NC s) (htr : l.stackTraces = false) (hXs : va_X b L xs s s.heap) (hbl : b < s.heap.size) (hbA : ¬ A b) (hL : L ≤ 3072) (hAn : ∀ q, A q → s.heap.size ≤ q) (hk1 : 6 * k ≤ L) (hk2 : L < 6 * k + 6) (h : lawRun FU xs k 0 (fun _ => 0) g0F g0M = some ()) {ls : Array Slot} (hl : lv_has ls 7 [(0, .ref b)]) :
    W p l e room_1 s m #[Value.ref b] below meth c s.heap [] 0 0 (lw_Z below #[Value.ref b] s) (F0 m 0 ls []) := by
  obtain ⟨hx, hb, hml, hr, hlocks, hown, hT, hK, hA⟩ := id X
  have hS : va_S A s.heap s.heap [] := va_S.rf
  have hP : va_P D cls [] s.heap := fun _ _ h => by cases h
  have hD : va_D A [] := ⟨fun _ _ _ _ h => (by cases h), fun _ _ h => (by cases h)⟩
  refine va_new (ci := 0) (fs := [.null, .null, .null, .null, .null, .null, .null, .null, .null, .null, .null, .int 0, .int 0, .int 0]) (C := R_FF) (T := F_FF) (N := 14) hx hb (fun _ h => hT.use h) in_FF ft_FF ft_FF_ok hown (hT.use q1_29) (hT.use q1_30) (hT.use q1_1) hK hP hD hS hA rfl (by decide +kernel) (Nat.le_of_ble_eq_true rfl) (Nat.le_of_ble_eq_true rfl) d_law_0 (fun q0 H hP hD hS => ?_)
  refine lv_dup hx hb d_law_3 rfl ?_
  refine cx_call (As := []) X (n_FF_init l D q0) ki_Law_92 hK hP hD hS ⟨⟨(Nat.le_of_ble_eq_true rfl), (Nat.le_of_ble_eq_true rfl)⟩, (Nat.le_of_ble_eq_true rfl), (Nat.le_of_ble_eq_true rfl)⟩ rfl hl.1 rfl (Nat.le_of_ble_eq_true rfl) d_law_4 (fun u H locs hK hP hD hS => ?_)
  obtain ⟨⟨ad, ca⟩, hq0⟩ := u
  have hq0 : ad 0 = q0 := hq0
  have hK : va_K D cls (tyF ca) s := hK
  have hP : va_P D cls (wF ad ca g0F) H := hP
  have hD : va_D A (wF ad ca g0F) := hD
  rw [← hq0]
  refine lv_astore_n (i := 1) hx hb d_law_7 rfl hl (by decide) rfl (fun ls hl => ?_)
  have hl : lv_has ls 7 [(1, .ref (ad 0)), (0, .ref b)] := hl
  refine va_new (ci := 10) (fs := [.int 0, .int 0, .int 0, .int 0, .int 0, .int 0, .int 0, .int 0, .int 0, .null, .int 0, .null, .int 0, .null, .null, .null, .null, .null, .null, .null, .null, .null, .int 0, .int 0, .null, .null, .null, .null, .int 0, .null, .null, .null, .null]) (C := R_Mod) (T := F_Mod) (N := 33) hx hb (fun _ h => hT.use h) in_Mod ft_Mod ft_Mod_ok hown (hT.use q7_134) (hT.use q7_135) (hT.use q1_11) hK hP hD hS hA rfl (by decide +kernel) (Nat.le_of_ble_eq_true rfl) (Nat.le_of_ble_eq_true rfl) d_law_8 (fun q1 H hP hD hS => ?_)
  refine lv_dup hx hb d_law_11 rfl ?_
  refine cx_call (As := []) X (n_Mod_init l D q1) ki_Law_95 hK hP hD hS ⟨⟨(Nat.le_of_ble_eq_true rfl), (Nat.le_of_ble_eq_true rfl)⟩, (Nat.le_of_ble_eq_true rfl), (Nat.le_of_ble_eq_true rfl)⟩ rfl hl.1 rfl (Nat.le_of_ble_eq_true rfl) d_law_12 (fun u H locs hK hP hD hS => ?_)
  obtain ⟨⟨adM, caM⟩, hq1⟩ := u
  have hq1 : adM 0 = q1 := hq1
  have hK : va_K D cls (tyF ca ++ tyM caM) s := hK
  have hP : va_P D cls (wF ad ca g0F ++ wM adM caM g0M) H := hP
  have hD : va_D A (wF ad ca g0F ++ wM adM caM g0M) := hD
  rw [← hq1]
  refine lv_astore_n (i := 2) hx hb d_law_15 rfl hl (by decide) rfl (fun ls hl => ?_)
  have hl : lv_has ls 7 [(2, .ref (adM 0)), (1, .ref (ad 0)), (0, .ref b)] := hl
  refine lv_iconst (v := 1) hx hb d_law_16 (by decide) ?_
  refine va_newa (atype := .long) (ty := .long) (N' := 1) (a0 := (1, .inr (.inl (fun _ => 0)))) hx hb (hT.use q8_228) rfl hK hP hD hS hA (fun _ => rfl) (by decide +kernel) (by decide +kernel) (by decide +kernel) (Nat.le_of_ble_eq_true rfl) (Nat.le_of_ble_eq_true rfl) d_law_17 (fun o cO H hK hP hD hS => ?_)
  have hK : va_K D cls (tyL ca caM cO) s := by rw [List.append_assoc] at hK; exact hK
  have hP : va_P D cls (wL ad ca adM caM o cO g0F g0M (fun _ => 0)) H := by rw [List.append_assoc] at hP; exact hP
  have hD : va_D A (wL ad ca adM caM o cO g0F g0M (fun _ => 0)) := by rw [List.append_assoc] at hD; exact hD
  refine lv_astore_n (i := 3) hx hb d_law_19 rfl hl (by decide) rfl (fun ls hl => ?_)
  have hl : lv_has ls 7 [(3, .ref o), (2, .ref (adM 0)), (1, .ref (ad 0)), (0, .ref b)] := hl
  refine lv_iconst (v := 0) hx hb d_law_20 (by decide) ?_
  refine lv_istore hx hb d_law_21 hl (by decide) rfl (fun ls hl => ?_)
  have hl : lv_has ls 7 [(4, .int (nI 0)), (3, .ref o), (2, .ref (adM 0)), (1, .ref (ad 0)), (0, .ref b)] := hl
  exact lw_loop (FX.on X hK) hZ hN htr hXs hbl hbA hL hAn k 0 _ _ g0F g0M (fun _ => 0) H _ ls (by omega) (by omega) (by omega) (by omega) hP hD hS (lv_sub hl [4, 3, 2, 1, 0] rfl) h
set_option maxHeartbeats 4000000 in
theorem whole_start (G : ∀ (xs : Nat → Int32) (k : Nat), k ≤ 512 → ∃ FU, lawRun FU xs k 0 (fun _ => 0) g0F g0M = some ()) {p : Program} {e : Env} {s : State} {m : MethodId} {below : List Frame} {meth : Method} {c : Code} (l : Launch) (hfl : l.flags = flags0) {b L : Nat} {xs : Nat → Int32} (hL : L ≤ 3072) (C0 : lw_At p s m meth c b L xs) : W p l e room_1 s m #[Value.ref b] below meth c s.heap [] 0 0 (lw_Z below #[Value.ref b] s) (entryFrame m ([Value.ref b] : List Value).toArray 7) := by
  obtain ⟨hx, hb, hr, hml, hown, hts, hXs, hbl, hlocks, hgv⟩ := C0
  have hnr := flat_of_before _ hgv
  have hAo : ∀ a : Nat, a < s.heap.size → ¬ (fun q => s.heap.size ≤ q) a := fun a h z => by
    have z : s.heap.size ≤ a := z
    omega
  have hT : TB s := TB.of hts
  obtain ⟨D, hK⟩ := st_K hT
  obtain ⟨FU, hrun⟩ := G xs (L / 6) (by omega)
  rw [lg_entry_eq]
  exact law_in (A := fun q => s.heap.size ≤ q) (k := L / 6) ⟨hx, hb, hml, hr, hlocks, hown, hT, hK, fun q h => h⟩ (st_ZS hts hnr hAo) (st_NC hnr) (st_tr hfl) hXs hbl (hAo b hbl) hL (fun q h => h) (by omega) (by omega) hrun (lv_entry [Value.ref b] (n := 7) (Nat.le_of_ble_eq_true rfl))

