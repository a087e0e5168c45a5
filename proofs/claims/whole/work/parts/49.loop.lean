def R_law : String := "FlashFilesLaw"
def lw_P (b : Addr) (xs : List Int32) (args : Array Value) (s : State) : Prop := args = #[.ref b] ∧ s.IntsAt b xs ∧ xs.length ≤ 3072 ∧ (Jvm.Cond.and given_1 narrow_1).before args s = true
def lw_Q (_ : Array Value) (s : State) (o : Outcome) (t : State) : Prop := o = .returned (some (.int 1)) ∧ Framed s o t [] 563331 7406112
def lw_Z (below : List Frame) (a : Array Value) (s : State) : State → Prop := fun t => ∃ o, t.status = .running ∧ Ended t below o ∧ lw_Q a s o t
/-- the law's own end, with 1 on the stack, nothing written that was there before, its room as the claim has it -/
theorem lw_ret {p : Program} {l : Launch} {e : Env} {s : State} {m : MethodId} {below : List Frame} {meth : Method} {c : Code} {b : Nat} (hx : p.tables.exec = Jvm.exec) (hb : c.code = code) (hr : meth.sig.returnType = ret) (hlocks : meth.locks = false) {pc : Nat} {H : Heap} {ls : Array Slot} (hdg : decode code pc = .ok (.ireturn, 1)) : W p l e room_1 s m #[Value.ref b] below meth c H [] 563331 7406112 (lw_Z below #[Value.ref b] s) (F0 m pc ls [.int 1]) := by
  intro T hT X
  obtain ⟨fs, hret, hrun, hended, hW, hframe⟩ := X.leave (v := some (.int 1)) (hlocks := hlocks) (fun h => by rw [hr] at h; cases h)
  have hmeth' : T.vm.method? m = some meth := X.method'
  refine ⟨T.setFrames fs, ?_, .returned (some (.int 1)), hrun, hended, rfl, ⟨_, rfl⟩, hW, hframe⟩
  jvm_step X.here [X.here.top, hx, hb, hdg, hmeth', hr, ret, narrow_b1]
  (try refine ⟨rfl, ?_⟩); (try refine ⟨rfl, ?_⟩)
  first | (intro acts; rw [hret _ acts rfl rfl rfl]) | rw [hret _ _ rfl rfl rfl]
  exact Steps.refl _
/-- what holds at the law's entry: the machine, the code, the tables' words (any of lw_tbl by 'hts w (by decide +kernel)'), the script of L ints xs at the cell b, what the Statement gives of the start (any of its parts by flat_of_before) -/
def lw_At (p : Program) (s : State) (m : MethodId) (meth : Method) (c : Code) (b L : Nat) (xs : Nat → Int32) : Prop :=
  p.tables.exec = Jvm.exec ∧ c.code = code ∧ meth.sig.returnType = ret ∧ c.maxLocals = 7 ∧ s.vm.findClass R_law = some m.cls ∧ (∀ w ∈ lw_tbl, w.before #[Value.ref b] s = true) ∧ va_X b L xs s s.heap ∧ b < s.heap.size ∧ meth.locks = false ∧ (Jvm.Cond.and given_1 narrow_1).before #[Value.ref b] s = true
def lawStep (FU : Nat) (xs : Nat → Int32) (i : Nat) (f : Nat → Int64) (g gM : St) : Option ((Nat → Int64) × St × St) :=
  if xs i &&& 31 = 0 then lawC0 FU xs i f g gM else if xs i &&& 31 = 1 then lawC1 FU xs i f g gM else if xs i &&& 31 = 2 then lawC2 FU xs i f g gM else if xs i &&& 31 = 3 then lawC3 FU xs i f g gM else if xs i &&& 31 = 4 then lawC4 FU xs i f g gM else if xs i &&& 31 = 5 then lawC5 FU xs i f g gM else if xs i &&& 31 = 6 then lawC6 FU xs i f g gM else if xs i &&& 31 = 7 then lawC7 FU xs i f g gM else if xs i &&& 31 = 8 then lawC8 FU xs i f g gM else if xs i &&& 31 = 9 then lawC9 FU xs i f g gM else if xs i &&& 31 = 10 then lawC10 FU xs i f g gM else if xs i &&& 31 = 11 then lawC11 FU xs i f g gM else if xs i &&& 31 = 12 then lawC12 FU xs i f g gM else if xs i &&& 31 = 13 then lawC13 FU xs i f g gM else if xs i &&& 31 = 14 then lawC14 FU xs i f g gM else if xs i &&& 31 = 15 then lawC15 FU xs i f g gM else if xs i &&& 31 = 16 then lawC16 FU xs i f g gM else if xs i &&& 31 = 17 then lawC17 FU xs i f g gM else if xs i &&& 31 = 18 then lawC18 FU xs i f g gM else if xs i &&& 31 = 19 then lawC19 FU xs i f g gM else if xs i &&& 31 = 20 then lawC20 FU xs i f g gM else if xs i &&& 31 = 21 then lawC21 FU xs i f g gM else if xs i &&& 31 = 22 then lawC22 FU xs i f g gM else if xs i &&& 31 = 23 then lawC23 FU xs i f g gM else some (f, g, gM)
def lawRun (FU : Nat) (xs : Nat → Int32) : Nat → Nat → (Nat → Int64) → St → St → Option Unit
  | 0, _, _, _, _ => some ()
  | k + 1, i, f, g, gM => (lawStep FU xs i f g gM).bind fun r => lawRun FU xs k (i + 6) r.1 r.2.1 r.2.2
theorem sw_out : ∀ j, j < 32 → ¬ j < 24 → (nI j).toInt < 0 ∨ 23 < (nI j).toInt := by decide +kernel
theorem and31 (x : Int32) : ∃ j, j < 32 ∧ x &&& 31 = nI j := pk_andE x 5 (by decide)
set_option maxHeartbeats 4000000 in
set_option maxRecDepth 100000 in
theorem lw_loop {p : Program} {l : Launch} {e : Env} {s : State} {m : MethodId} {below : List Frame} {meth : Method} {c : Code} {D : va_G} {ad : Nat → Nat} {ca : Nat → ClassId} {adM : Nat → Nat} {caM : Nat → ClassId} {o : Nat} {cO : ClassId} {A : Nat → Prop} {FU b L : Nat} {xs : Nat → Int32} (X : FX p s m meth c code 7 ret "FlashFilesLaw" D (tyL ca caM cO) A) (hZ : ZS A s) (hN : NC s) (htr : l.stackTraces = false) (hXs : va_X b L xs s s.heap) (hbl : b < s.heap.size) (hbA : ¬ A b) (hL : L ≤ 3072) (hAn : ∀ q, A q → s.heap.size ≤ q) :
    ∀ (k i cells slots : Nat) (g gM : St) (f : Nat → Int64) (H : Heap) (locs : List Loc) (ls : Array Slot), i + 6 * k ≤ L → L < i + 6 * k + 6 → cells + k ≤ 563331 → slots + 6 * k ≤ 7406112 → va_P D cls (wL ad ca adM caM o cO g gM f) H → va_D A (wL ad ca adM caM o cO g gM f) → va_S A s.heap H locs → lv_has ls 7 [(0, .ref b), (1, .ref (ad 0)), (2, .ref (adM 0)), (3, .ref o), (4, .int (nI i))] → lawRun FU xs k i f g gM = some () →
      W p l e room_1 s m #[Value.ref b] below meth c H locs cells slots (lw_Z below #[Value.ref b] s) (F0 m 23 ls []) := by
  have hx := X.1
  have hb := X.2.1
  have hr := X.2.2.2.1
  have hlocks := X.2.2.2.2.1
  intro k
  induction k with
  | zero =>
    intro i cells slots g gM f H locs ls h1 h2 h3 h4 hP hD hS hl h
    refine lv_iload hx hb d_law_23 (lv_at hl 4 rfl) ?_
    refine lv_aload_n hx hb d_law_25 rfl (lv_at hl 0 rfl) ?_
    refine va_slen hx hb hXs hbl hbA hS d_law_26 ?_
    refine lv_bipush (v := 6) hx hb d_law_27 (by decide) ?_
    refine lv_isub hx hb d_law_29 ?_
    refine lv_icmp_gt (tgt := 1535) hx hb d_law_30 (by decide) (fun hc => ?_) (fun hc => ?_)
    · refine lv_iconst (v := 1) hx hb d_law_1535 (by decide) ?_
      refine va_forget (fun q hq => hAn _ (hS.2.2 q hq)) ?_
      refine W.widen (k := 563331) (n := 7406112) (by omega) (by omega) ?_
      exact lw_ret hx hb hr hlocks d_law_1536
    · refine absurd ?_ hc
      rw [Int32.lt_iff_toInt_lt]
      have e1 := pk_sub_toInt (a := L) (b := 6) (by omega) (by omega)
      have e2 := nI_toInt (n := i) (by omega)
      show (nI L - nI 6).toInt < (nI i).toInt
      omega
  | succ k ih =>
    intro i cells slots g gM f H locs ls h1 h2 h3 h4 hP hD hS hl h
    refine lv_iload hx hb d_law_23 (lv_at hl 4 rfl) ?_
    refine lv_aload_n hx hb d_law_25 rfl (lv_at hl 0 rfl) ?_
    refine va_slen hx hb hXs hbl hbA hS d_law_26 ?_
    refine lv_bipush (v := 6) hx hb d_law_27 (by decide) ?_
    refine lv_isub hx hb d_law_29 ?_
    refine lv_icmp_gt (tgt := 1535) hx hb d_law_30 (by decide) (fun hc => ?_) (fun hc => ?_)
    · exfalso
      rw [Int32.lt_iff_toInt_lt] at hc
      have e1 := pk_sub_toInt (a := L) (b := 6) (by omega) (by omega)
      have e2 := nI_toInt (n := i) (by omega)
      have hc : (nI L - nI 6).toInt < (nI i).toInt := hc
      omega
    have hi : i + 6 ≤ L := by omega
    refine lv_aload_n hx hb d_law_33 rfl (lv_at hl 0 rfl) ?_
    refine lv_iload hx hb d_law_34 (lv_at hl 4 rfl) ?_
    refine sc_ld (j := i) X hXs hbl hbA hS rfl (by omega) hL d_law_36 ?_
    refine lv_bipush (v := 31) hx hb d_law_37 (by decide) ?_
    refine lv_iand hx hb d_law_39 ?_
    have hcc : cells + 1 ≤ room_1.cells := by show cells + 1 ≤ 563331; omega
    have hss : slots + 6 ≤ room_1.slots := by show slots + 6 ≤ 7406112; omega
    unfold lawRun at h
    obtain ⟨r, hr1, h⟩ := bd_some h
    have tail : ∀ (H : Heap) (locs : List Loc) (ls : Array Slot), va_P D cls (wL ad ca adM caM o cO r.2.1 r.2.2 r.1) H → va_D A (wL ad ca adM caM o cO r.2.1 r.2.2 r.1) → va_S A s.heap H locs → lv_has ls 7 [(0, .ref b), (1, .ref (ad 0)), (2, .ref (adM 0)), (3, .ref o), (4, .int (nI i))] → W p l e room_1 s m #[Value.ref b] below meth c H locs (cells + 1) (slots + 6) (lw_Z below #[Value.ref b] s) (F0 m 1529 ls []) := by
      intro H locs ls hP hD hS hl
      refine lv_iinc (k := 4) (v := nI (i + 6)) hx hb d_law_1529 hl rfl (nI_add i 6) (by decide) rfl (fun ls hl => ?_)
      refine lv_goto (tgt := 23) hx hb d_law_1532 (by decide) ?_
      exact ih (i + 6) (cells + 1) (slots + 6) r.2.1 r.2.2 r.1 H locs ls (by omega) (by omega) (by omega) (by omega) hP hD hS (lv_sub hl [1, 2, 3, 4, 0] rfl) h
    unfold lawStep at hr1
    by_cases c0 : xs i &&& 31 = 0
    · have hr1 := if_t c0 hr1
      refine lv_tableIn (off := 112) (tgt := 152) hx hb d_law_40 (by rw [c0]; decide +kernel) (by rw [c0]; decide +kernel) (by rw [c0]; decide +kernel) (by decide) ?_
      exact lc_0 X hZ hN htr hXs hbl hbA hL hi hcc hss hP hD hS hl hr1 tail
    replace hr1 := if_f c0 hr1
    by_cases c1 : xs i &&& 31 = 1
    · have hr1 := if_t c1 hr1
      refine lv_tableIn (off := 160) (tgt := 200) hx hb d_law_40 (by rw [c1]; decide +kernel) (by rw [c1]; decide +kernel) (by rw [c1]; decide +kernel) (by decide) ?_
      exact lc_1 X hZ hN htr hXs hbl hbA hL hi hcc hss hP hD hS hl hr1 tail
    replace hr1 := if_f c1 hr1
    by_cases c2 : xs i &&& 31 = 2
    · have hr1 := if_t c2 hr1
      refine lv_tableIn (off := 264) (tgt := 304) hx hb d_law_40 (by rw [c2]; decide +kernel) (by rw [c2]; decide +kernel) (by rw [c2]; decide +kernel) (by decide) ?_
      exact lc_2 X hZ hN htr hXs hbl hbA hL hi hcc hss hP hD hS hl hr1 tail
    replace hr1 := if_f c2 hr1
    by_cases c3 : xs i &&& 31 = 3
    · have hr1 := if_t c3 hr1
      refine lv_tableIn (off := 289) (tgt := 329) hx hb d_law_40 (by rw [c3]; decide +kernel) (by rw [c3]; decide +kernel) (by rw [c3]; decide +kernel) (by decide) ?_
      exact lc_3 X hZ hN htr hXs hbl hbA hL hi hcc hss hP hD hS hl hr1 tail
    replace hr1 := if_f c3 hr1
    by_cases c4 : xs i &&& 31 = 4
    · have hr1 := if_t c4 hr1
      refine lv_tableIn (off := 357) (tgt := 397) hx hb d_law_40 (by rw [c4]; decide +kernel) (by rw [c4]; decide +kernel) (by rw [c4]; decide +kernel) (by decide) ?_
      exact lc_4 X hZ hN htr hXs hbl hbA hL hi hcc hss hP hD hS hl hr1 tail
    replace hr1 := if_f c4 hr1
    by_cases c5 : xs i &&& 31 = 5
    · have hr1 := if_t c5 hr1
      refine lv_tableIn (off := 425) (tgt := 465) hx hb d_law_40 (by rw [c5]; decide +kernel) (by rw [c5]; decide +kernel) (by rw [c5]; decide +kernel) (by decide) ?_
      exact lc_5 X hZ hN htr hXs hbl hbA hL hi hcc hss hP hD hS hl hr1 tail
    replace hr1 := if_f c5 hr1
    by_cases c6 : xs i &&& 31 = 6
    · have hr1 := if_t c6 hr1
      refine lv_tableIn (off := 505) (tgt := 545) hx hb d_law_40 (by rw [c6]; decide +kernel) (by rw [c6]; decide +kernel) (by rw [c6]; decide +kernel) (by decide) ?_
      exact lc_6 X hZ hN htr hXs hbl hbA hL hi hcc hss hP hD hS hl hr1 tail
    replace hr1 := if_f c6 hr1
    by_cases c7 : xs i &&& 31 = 7
    · have hr1 := if_t c7 hr1
      refine lv_tableIn (off := 573) (tgt := 613) hx hb d_law_40 (by rw [c7]; decide +kernel) (by rw [c7]; decide +kernel) (by rw [c7]; decide +kernel) (by decide) ?_
      exact lc_7 X hZ hN htr hXs hbl hbA hL hi hcc hss hP hD hS hl hr1 tail
    replace hr1 := if_f c7 hr1
    by_cases c8 : xs i &&& 31 = 8
    · have hr1 := if_t c8 hr1
      refine lv_tableIn (off := 621) (tgt := 661) hx hb d_law_40 (by rw [c8]; decide +kernel) (by rw [c8]; decide +kernel) (by rw [c8]; decide +kernel) (by decide) ?_
      exact lc_8 X hZ hN htr hXs hbl hbA hL hi hcc hss hP hD hS hl hr1 tail
    replace hr1 := if_f c8 hr1
    by_cases c9 : xs i &&& 31 = 9
    · have hr1 := if_t c9 hr1
      refine lv_tableIn (off := 693) (tgt := 733) hx hb d_law_40 (by rw [c9]; decide +kernel) (by rw [c9]; decide +kernel) (by rw [c9]; decide +kernel) (by decide) ?_
      exact lc_9 X hZ hN htr hXs hbl hbA hL hi hcc hss hP hD hS hl hr1 tail
    replace hr1 := if_f c9 hr1
    by_cases c10 : xs i &&& 31 = 10
    · have hr1 := if_t c10 hr1
      refine lv_tableIn (off := 761) (tgt := 801) hx hb d_law_40 (by rw [c10]; decide +kernel) (by rw [c10]; decide +kernel) (by rw [c10]; decide +kernel) (by decide) ?_
      exact lc_10 X hZ hN htr hXs hbl hbA hL hi hcc hss hP hD hS hl hr1 tail
    replace hr1 := if_f c10 hr1
    by_cases c11 : xs i &&& 31 = 11
    · have hr1 := if_t c11 hr1
      refine lv_tableIn (off := 841) (tgt := 881) hx hb d_law_40 (by rw [c11]; decide +kernel) (by rw [c11]; decide +kernel) (by rw [c11]; decide +kernel) (by decide) ?_
      exact lc_11 X hZ hN htr hXs hbl hbA hL hi hcc hss hP hD hS hl hr1 tail
    replace hr1 := if_f c11 hr1
    by_cases c12 : xs i &&& 31 = 12
    · have hr1 := if_t c12 hr1
      refine lv_tableIn (off := 921) (tgt := 961) hx hb d_law_40 (by rw [c12]; decide +kernel) (by rw [c12]; decide +kernel) (by rw [c12]; decide +kernel) (by decide) ?_
      exact lc_12 X hZ hN htr hXs hbl hbA hL hi hcc hss hP hD hS hl hr1 tail
    replace hr1 := if_f c12 hr1
    by_cases c13 : xs i &&& 31 = 13
    · have hr1 := if_t c13 hr1
      refine lv_tableIn (off := 977) (tgt := 1017) hx hb d_law_40 (by rw [c13]; decide +kernel) (by rw [c13]; decide +kernel) (by rw [c13]; decide +kernel) (by decide) ?_
      exact lc_13 X hZ hN htr hXs hbl hbA hL hi hcc hss hP hD hS hl hr1 tail
    replace hr1 := if_f c13 hr1
    by_cases c14 : xs i &&& 31 = 14
    · have hr1 := if_t c14 hr1
      refine lv_tableIn (off := 1025) (tgt := 1065) hx hb d_law_40 (by rw [c14]; decide +kernel) (by rw [c14]; decide +kernel) (by rw [c14]; decide +kernel) (by decide) ?_
      exact lc_14 X hZ hN htr hXs hbl hbA hL hi hcc hss hP hD hS hl hr1 tail
    replace hr1 := if_f c14 hr1
    by_cases c15 : xs i &&& 31 = 15
    · have hr1 := if_t c15 hr1
      refine lv_tableIn (off := 1081) (tgt := 1121) hx hb d_law_40 (by rw [c15]; decide +kernel) (by rw [c15]; decide +kernel) (by rw [c15]; decide +kernel) (by decide) ?_
      exact lc_15 X hZ hN htr hXs hbl hbA hL hi hcc hss hP hD hS hl hr1 tail
    replace hr1 := if_f c15 hr1
    by_cases c16 : xs i &&& 31 = 16
    · have hr1 := if_t c16 hr1
      refine lv_tableIn (off := 1125) (tgt := 1165) hx hb d_law_40 (by rw [c16]; decide +kernel) (by rw [c16]; decide +kernel) (by rw [c16]; decide +kernel) (by decide) ?_
      exact lc_16 X hZ hN htr hXs hbl hbA hL hi hcc hss hP hD hS hl hr1 tail
    replace hr1 := if_f c16 hr1
    by_cases c17 : xs i &&& 31 = 17
    · have hr1 := if_t c17 hr1
      refine lv_tableIn (off := 1193) (tgt := 1233) hx hb d_law_40 (by rw [c17]; decide +kernel) (by rw [c17]; decide +kernel) (by rw [c17]; decide +kernel) (by decide) ?_
      exact lc_17 X hZ hN htr hXs hbl hbA hL hi hcc hss hP hD hS hl hr1 tail
    replace hr1 := if_f c17 hr1
    by_cases c18 : xs i &&& 31 = 18
    · have hr1 := if_t c18 hr1
      refine lv_tableIn (off := 1261) (tgt := 1301) hx hb d_law_40 (by rw [c18]; decide +kernel) (by rw [c18]; decide +kernel) (by rw [c18]; decide +kernel) (by decide) ?_
      exact lc_18 X hZ hN htr hXs hbl hbA hL hi hcc hss hP hD hS hl hr1 tail
    replace hr1 := if_f c18 hr1
    by_cases c19 : xs i &&& 31 = 19
    · have hr1 := if_t c19 hr1
      refine lv_tableIn (off := 1317) (tgt := 1357) hx hb d_law_40 (by rw [c19]; decide +kernel) (by rw [c19]; decide +kernel) (by rw [c19]; decide +kernel) (by decide) ?_
      exact lc_19 X hZ hN htr hXs hbl hbA hL hi hcc hss hP hD hS hl hr1 tail
    replace hr1 := if_f c19 hr1
    by_cases c20 : xs i &&& 31 = 20
    · have hr1 := if_t c20 hr1
      refine lv_tableIn (off := 1341) (tgt := 1381) hx hb d_law_40 (by rw [c20]; decide +kernel) (by rw [c20]; decide +kernel) (by rw [c20]; decide +kernel) (by decide) ?_
      exact lc_20 X hZ hN htr hXs hbl hbA hL hi hcc hss hP hD hS hl hr1 tail
    replace hr1 := if_f c20 hr1
    by_cases c21 : xs i &&& 31 = 21
    · have hr1 := if_t c21 hr1
      refine lv_tableIn (off := 1377) (tgt := 1417) hx hb d_law_40 (by rw [c21]; decide +kernel) (by rw [c21]; decide +kernel) (by rw [c21]; decide +kernel) (by decide) ?_
      exact lc_21 X hZ hN htr hXs hbl hbA hL hi hcc hss hP hD hS hl hr1 tail
    replace hr1 := if_f c21 hr1
    by_cases c22 : xs i &&& 31 = 22
    · have hr1 := if_t c22 hr1
      refine lv_tableIn (off := 1421) (tgt := 1461) hx hb d_law_40 (by rw [c22]; decide +kernel) (by rw [c22]; decide +kernel) (by rw [c22]; decide +kernel) (by decide) ?_
      exact lc_22 X hZ hN htr hXs hbl hbA hL hi hcc hss hP hD hS hl hr1 tail
    replace hr1 := if_f c22 hr1
    by_cases c23 : xs i &&& 31 = 23
    · have hr1 := if_t c23 hr1
      refine lv_tableIn (off := 1445) (tgt := 1485) hx hb d_law_40 (by rw [c23]; decide +kernel) (by rw [c23]; decide +kernel) (by rw [c23]; decide +kernel) (by decide) ?_
      exact lc_23 X hZ hN htr hXs hbl hbA hL hi hcc hss hP hD hS hl hr1 tail
    replace hr1 := if_f c23 hr1
    cases hr1
    obtain ⟨j, hj, ej⟩ := and31 (xs i)
    have hout : (xs i &&& 31).toInt < 0 ∨ 23 < (xs i &&& 31).toInt := by
      rw [ej]
      refine sw_out j hj (fun hlt => ?_)
      have hall : ∀ j, j < 24 → (nI j = 0 ∨ nI j = 1 ∨ nI j = 2 ∨ nI j = 3 ∨ nI j = 4 ∨ nI j = 5 ∨ nI j = 6 ∨ nI j = 7 ∨ nI j = 8 ∨ nI j = 9 ∨ nI j = 10 ∨ nI j = 11 ∨ nI j = 12 ∨ nI j = 13 ∨ nI j = 14 ∨ nI j = 15 ∨ nI j = 16 ∨ nI j = 17 ∨ nI j = 18 ∨ nI j = 19 ∨ nI j = 20 ∨ nI j = 21 ∨ nI j = 22 ∨ nI j = 23) := by decide +kernel
      have h9 := hall j hlt
      rw [← ej] at h9
      simp only [c0, c1, c2, c3, c4, c5, c6, c7, c8, c9, c10, c11, c12, c13, c14, c15, c16, c17, c18, c19, c20, c21, c22, c23, or_self] at h9
    refine lv_tableOut (tgt := 1529) hx hb d_law_40 hout (by decide) ?_
    refine W.widen (k := cells + 1) (n := slots + 6) (by omega) (by omega) ?_
    exact tail _ _ _ hP hD hS hl
