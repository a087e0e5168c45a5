def lawC0 (FU : Nat) (xs : Nat → Int32) (i : Nat) (f : Nat → Int64) (g gM : St) : Option ((Nat → Int64) × St × St) := (Law_format FU (xs (i + 1)) (xs (i + 2)) f g).bind fun p1 => (Mod_format FU (xs (i + 1)) (xs (i + 2)) gM).bind fun b2 => (Mod_thrown FU  b2).bind fun b3 => (if b3 = p1.1 then some (p1.2.1, p1.2.2, b2) else none)
def lawC1 (FU : Nat) (xs : Nat → Int32) (i : Nat) (f : Nat → Int64) (g gM : St) : Option ((Nat → Int64) × St × St) := (Law_feed FU (xs (i + 1)) (xs (i + 2)) (xs (i + 3)) (xs (i + 4)) (xs (i + 5)) f g).bind fun p1 => (Mod_feed FU (xs (i + 1)) (xs (i + 2)) (xs (i + 3)) (xs (i + 4)) (xs (i + 5)) gM).bind fun b2 => (Mod_thrown FU  b2.2).bind fun b3 => (if b3 = p1.1 then (if p1.1 = 0 then (if lg_cmp (p1.2.1 0) ((b2.1).toInt64) = 0 then some (p1.2.1, p1.2.2, b2.2) else none) else some (p1.2.1, p1.2.2, b2.2)) else none)
def lawC2 (FU : Nat) (xs : Nat → Int32) (i : Nat) (f : Nat → Int64) (g gM : St) : Option ((Nat → Int64) × St × St) := (FF_tape FU (xs (i + 1)) g).bind fun b1 => (Mod_tape FU (xs (i + 1)) gM).bind fun b2 => (if b1.1 = b2.1 then some (f, b1.2, b2.2) else none)
def lawC3 (FU : Nat) (xs : Nat → Int32) (i : Nat) (f : Nat → Int64) (g gM : St) : Option ((Nat → Int64) × St × St) := (Law_make FU (xs (i + 1)) (xs (i + 2)) f g).bind fun p1 => (Mod_make FU (xs (i + 1)) (xs (i + 2)) gM).bind fun b2 => (Mod_thrown FU  b2.2).bind fun b3 => (if b3 = p1.1 then (if p1.1 = 0 then (if lg_cmp (p1.2.1 0) ((b2.1).toInt64) = 0 then some (p1.2.1, p1.2.2, b2.2) else none) else some (p1.2.1, p1.2.2, b2.2)) else none)
def lawC4 (FU : Nat) (xs : Nat → Int32) (i : Nat) (f : Nat → Int64) (g gM : St) : Option ((Nat → Int64) × St × St) := (Law_makeDirectory FU (xs (i + 1)) (xs (i + 2)) f g).bind fun p1 => (Mod_makeDirectory FU (xs (i + 1)) (xs (i + 2)) gM).bind fun b2 => (Mod_thrown FU  b2.2).bind fun b3 => (if b3 = p1.1 then (if p1.1 = 0 then (if lg_cmp (p1.2.1 0) ((b2.1).toInt64) = 0 then some (p1.2.1, p1.2.2, b2.2) else none) else some (p1.2.1, p1.2.2, b2.2)) else none)
def lawC5 (FU : Nat) (xs : Nat → Int32) (i : Nat) (f : Nat → Int64) (g gM : St) : Option ((Nat → Int64) × St × St) := (Law_link FU (xs (i + 1)) (xs (i + 2)) (xs (i + 3)) f g).bind fun p1 => (Mod_link FU (xs (i + 1)) (xs (i + 2)) (xs (i + 3)) gM).bind fun b2 => (Mod_thrown FU  b2.2).bind fun b3 => (if b3 = p1.1 then (if p1.1 = 0 then (if lg_cmp (p1.2.1 0) ((b2.1).toInt64) = 0 then some (p1.2.1, p1.2.2, b2.2) else none) else some (p1.2.1, p1.2.2, b2.2)) else none)
def lawC6 (FU : Nat) (xs : Nat → Int32) (i : Nat) (f : Nat → Int64) (g gM : St) : Option ((Nat → Int64) × St × St) := (Law_unlink FU (xs (i + 1)) (xs (i + 2)) f g).bind fun p1 => (Mod_unlink FU (xs (i + 1)) (xs (i + 2)) gM).bind fun b2 => (Mod_thrown FU  b2.2).bind fun b3 => (if b3 = p1.1 then (if p1.1 = 0 then (if lg_cmp (p1.2.1 0) ((b2.1).toInt64) = 0 then some (p1.2.1, p1.2.2, b2.2) else none) else some (p1.2.1, p1.2.2, b2.2)) else none)
def lawC7 (FU : Nat) (xs : Nat → Int32) (i : Nat) (f : Nat → Int64) (g gM : St) : Option ((Nat → Int64) × St × St) := (Law_removeDirectory FU (xs (i + 1)) (xs (i + 2)) f g).bind fun p1 => (Mod_removeDirectory FU (xs (i + 1)) (xs (i + 2)) gM).bind fun b2 => (Mod_thrown FU  b2).bind fun b3 => (if b3 = p1.1 then some (p1.2.1, p1.2.2, b2) else none)
def lawC8 (FU : Nat) (xs : Nat → Int32) (i : Nat) (f : Nat → Int64) (g gM : St) : Option ((Nat → Int64) × St × St) := (Law_rename FU (xs (i + 1)) (xs (i + 2)) (xs (i + 3)) (xs (i + 4)) f g).bind fun p1 => (Mod_rename FU (xs (i + 1)) (xs (i + 2)) (xs (i + 3)) (xs (i + 4)) gM).bind fun b2 => (Mod_thrown FU  b2).bind fun b3 => (if b3 = p1.1 then some (p1.2.1, p1.2.2, b2) else none)
def lawC9 (FU : Nat) (xs : Nat → Int32) (i : Nat) (f : Nat → Int64) (g gM : St) : Option ((Nat → Int64) × St × St) := (Law_find FU (xs (i + 1)) (xs (i + 2)) f g).bind fun p1 => (Mod_find FU (xs (i + 1)) (xs (i + 2)) gM).bind fun b2 => (Mod_thrown FU  b2.2).bind fun b3 => (if b3 = p1.1 then (if p1.1 = 0 then (if lg_cmp (p1.2.1 0) ((b2.1).toInt64) = 0 then some (p1.2.1, p1.2.2, b2.2) else none) else some (p1.2.1, p1.2.2, b2.2)) else none)
def lawC10 (FU : Nat) (xs : Nat → Int32) (i : Nat) (f : Nat → Int64) (g gM : St) : Option ((Nat → Int64) × St × St) := (Law_write FU (xs (i + 1)) (xs (i + 2)) (xs (i + 3)) f g).bind fun p1 => (Mod_write FU (xs (i + 1)) (xs (i + 2)) (xs (i + 3)) gM).bind fun b2 => (Mod_thrown FU  b2.2).bind fun b3 => (if b3 = p1.1 then (if p1.1 = 0 then (if lg_cmp (p1.2.1 0) ((b2.1).toInt64) = 0 then some (p1.2.1, p1.2.2, b2.2) else none) else some (p1.2.1, p1.2.2, b2.2)) else none)
def lawC11 (FU : Nat) (xs : Nat → Int32) (i : Nat) (f : Nat → Int64) (g gM : St) : Option ((Nat → Int64) × St × St) := (Law_read FU (xs (i + 1)) (xs (i + 2)) (xs (i + 3)) f g).bind fun p1 => (Mod_read FU (xs (i + 1)) (xs (i + 2)) (xs (i + 3)) gM).bind fun b2 => (Mod_thrown FU  b2.2).bind fun b3 => (if b3 = p1.1 then (if p1.1 = 0 then (if lg_cmp (p1.2.1 0) ((b2.1).toInt64) = 0 then some (p1.2.1, p1.2.2, b2.2) else none) else some (p1.2.1, p1.2.2, b2.2)) else none)
def lawC12 (FU : Nat) (xs : Nat → Int32) (i : Nat) (f : Nat → Int64) (g gM : St) : Option ((Nat → Int64) × St × St) := (Law_byteAt FU (xs (i + 1)) f g).bind fun p1 => (Mod_byteAt FU (xs (i + 1)) gM).bind fun b2 => (Mod_thrown FU  b2.2).bind fun b3 => (if b3 = p1.1 then (if p1.1 = 0 then (if lg_cmp (p1.2.1 0) ((b2.1).toInt64) = 0 then some (p1.2.1, p1.2.2, b2.2) else none) else some (p1.2.1, p1.2.2, b2.2)) else none)
def lawC13 (FU : Nat) (xs : Nat → Int32) (i : Nat) (f : Nat → Int64) (g gM : St) : Option ((Nat → Int64) × St × St) := (Law_truncate FU (xs (i + 1)) (xs (i + 2)) f g).bind fun p1 => (Mod_truncate FU (xs (i + 1)) (xs (i + 2)) gM).bind fun b2 => (Mod_thrown FU  b2).bind fun b3 => (if b3 = p1.1 then some (p1.2.1, p1.2.2, b2) else none)
def lawC14 (FU : Nat) (xs : Nat → Int32) (i : Nat) (f : Nat → Int64) (g gM : St) : Option ((Nat → Int64) × St × St) := (Law_fsync FU (xs (i + 1)) f g).bind fun p1 => (Mod_fsync FU (xs (i + 1)) gM).bind fun b2 => (Mod_thrown FU  b2.2).bind fun b3 => (if b3 = p1.1 then (if p1.1 = 0 then (if lg_cmp (p1.2.1 0) ((b2.1).toInt64) = 0 then some (p1.2.1, p1.2.2, b2.2) else none) else some (p1.2.1, p1.2.2, b2.2)) else none)
def lawC15 (FU : Nat) (xs : Nat → Int32) (i : Nat) (f : Nat → Int64) (g gM : St) : Option ((Nat → Int64) × St × St) := (Law_sync FU  f g).bind fun p1 => (Mod_sync FU  gM).bind fun b2 => (Mod_thrown FU  b2.2).bind fun b3 => (if b3 = p1.1 then (if p1.1 = 0 then (if lg_cmp (p1.2.1 0) ((b2.1).toInt64) = 0 then some (p1.2.1, p1.2.2, b2.2) else none) else some (p1.2.1, p1.2.2, b2.2)) else none)
def lawC16 (FU : Nat) (xs : Nat → Int32) (i : Nat) (f : Nat → Int64) (g gM : St) : Option ((Nat → Int64) × St × St) := (Law_name FU (xs (i + 1)) (xs (i + 2)) f g).bind fun p1 => (Mod_name FU (xs (i + 1)) (xs (i + 2)) gM).bind fun b2 => (Mod_thrown FU  b2.2).bind fun b3 => (if b3 = p1.1 then (if p1.1 = 0 then (if lg_cmp (p1.2.1 0) ((b2.1).toInt64) = 0 then some (p1.2.1, p1.2.2, b2.2) else none) else some (p1.2.1, p1.2.2, b2.2)) else none)
def lawC17 (FU : Nat) (xs : Nat → Int32) (i : Nat) (f : Nat → Int64) (g gM : St) : Option ((Nat → Int64) × St × St) := (Law_look FU (xs (i + 1)) (xs (i + 2)) f g).bind fun p1 => (Mod_look FU (xs (i + 1)) (xs (i + 2)) gM).bind fun b2 => (Mod_thrown FU  b2.2).bind fun b3 => (if b3 = p1.1 then (if p1.1 = 0 then (if lg_cmp (p1.2.1 0) ((b2.1).toInt64) = 0 then some (p1.2.1, p1.2.2, b2.2) else none) else some (p1.2.1, p1.2.2, b2.2)) else none)
def lawC18 (FU : Nat) (xs : Nat → Int32) (i : Nat) (f : Nat → Int64) (g gM : St) : Option ((Nat → Int64) × St × St) := (Law_count FU (xs (i + 1)) f g).bind fun p1 => (Mod_count FU (xs (i + 1)) gM).bind fun b2 => (Mod_thrown FU  b2.2).bind fun b3 => (if b3 = p1.1 then (if p1.1 = 0 then (if lg_cmp (p1.2.1 0) ((b2.1).toInt64) = 0 then some (p1.2.1, p1.2.2, b2.2) else none) else some (p1.2.1, p1.2.2, b2.2)) else none)
def lawC19 (FU : Nat) (xs : Nat → Int32) (i : Nat) (f : Nat → Int64) (g gM : St) : Option ((Nat → Int64) × St × St) := (Law_power FU  f g).bind fun p1 => (Mod_power FU  gM).bind fun b2 => (Mod_thrown FU  b2).bind fun b3 => (if b3 = p1.1 then some (p1.2.1, p1.2.2, b2) else none)
def lawC20 (FU : Nat) (xs : Nat → Int32) (i : Nat) (f : Nat → Int64) (g gM : St) : Option ((Nat → Int64) × St × St) := (Law_cut FU (xs (i + 1)) f g).bind fun p1 => (Mod_cut FU (xs (i + 1)) gM).bind fun b2 => (Mod_thrown FU  b2).bind fun b3 => (if b3 = p1.1 then some (p1.2.1, p1.2.2, b2) else none)
def lawC21 (FU : Nat) (xs : Nat → Int32) (i : Nat) (f : Nat → Int64) (g gM : St) : Option ((Nat → Int64) × St × St) := (Law_mount FU  f g).bind fun p1 => (Mod_mount FU  gM).bind fun b2 => (Mod_thrown FU  b2.2).bind fun b3 => (if b3 = p1.1 then (if p1.1 = 0 then (if lg_cmp (p1.2.1 0) ((b2.1).toInt64) = 0 then some (p1.2.1, p1.2.2, b2.2) else none) else some (p1.2.1, p1.2.2, b2.2)) else none)
def lawC22 (FU : Nat) (xs : Nat → Int32) (i : Nat) (f : Nat → Int64) (g gM : St) : Option ((Nat → Int64) × St × St) := (Law_clean FU  f g).bind fun p1 => (Mod_clean FU  gM).bind fun b2 => (Mod_thrown FU  b2).bind fun b3 => (if b3 = p1.1 then some (p1.2.1, p1.2.2, b2) else none)
def lawC23 (FU : Nat) (xs : Nat → Int32) (i : Nat) (f : Nat → Int64) (g gM : St) : Option ((Nat → Int64) × St × St) := (Law_faults FU  f g).bind fun p1 => (Mod_faults FU  gM).bind fun b2 => (Mod_thrown FU  b2.2).bind fun b3 => (if b3 = p1.1 then (if p1.1 = 0 then (if lg_cmp (p1.2.1 0) ((b2.1).toInt64) = 0 then some (p1.2.1, p1.2.2, b2.2) else none) else some (p1.2.1, p1.2.2, b2.2)) else none)
set_option maxHeartbeats 4000000 in
set_option maxRecDepth 100000 in
theorem lc_0 {p : Program} {l : Launch} {e : Env} {s : State} {m : MethodId} {below : List Frame} {meth : Method} {c : Code} {D : va_G} {ad : Nat → Nat} {ca : Nat → ClassId} {adM : Nat → Nat} {caM : Nat → ClassId} {o : Nat} {cO : ClassId} {A : Nat → Prop} {FU b L i : Nat} {xs : Nat → Int32} {Q : State → Prop} {cells slots : Nat} (X : FX p s m meth c code 7 ret "FlashFilesLaw" D (tyL ca caM cO) A) (hZ : ZS A s) (hN : NC s) (htr : l.stackTraces = false) (hXs : va_X b L xs s s.heap) (hbl : b < s.heap.size) (hbA : ¬ A b) (hL : L ≤ 3072) (hi : i + 6 ≤ L) (hcc : cells + 1 ≤ room_1.cells) (hss : slots + 6 ≤ room_1.slots) {g gM : St} {f : Nat → Int64} {r : (Nat → Int64) × St × St} {H : Heap} {locs : List Loc} {ls : Array Slot} (hP : va_P D cls (wL ad ca adM caM o cO g gM f) H) (hD : va_D A (wL ad ca adM caM o cO g gM f)) (hS : va_S A s.heap H locs) (hl : lv_has ls 7 [(0, .ref b), (1, .ref (ad 0)), (2, .ref (adM 0)), (3, .ref o), (4, .int (nI i))]) (h : lawC0 FU xs i f g gM = some r)
    (kk : ∀ (H : Heap) (locs : List Loc) (ls : Array Slot), va_P D cls (wL ad ca adM caM o cO r.2.1 r.2.2 r.1) H → va_D A (wL ad ca adM caM o cO r.2.1 r.2.2 r.1) → va_S A s.heap H locs → lv_has ls 7 [(0, .ref b), (1, .ref (ad 0)), (2, .ref (adM 0)), (3, .ref o), (4, .int (nI i))] → W p l e room_1 s m #[Value.ref b] below meth c H locs (cells + 1) (slots + 6) Q (F0 m 1529 ls [])) : W p l e room_1 s m #[Value.ref b] below meth c H locs cells slots Q (F0 m 152 ls []) := by
  have hx := X.1
  have hb := X.2.1
  unfold lawC0 at h
  refine lv_aload_n hx hb d_law_152 rfl (lv_at hl 1 rfl) ?_
  refine lv_aload_n hx hb d_law_153 rfl (lv_at hl 0 rfl) ?_
  refine lv_iload hx hb d_law_154 (lv_at hl 4 rfl) ?_
  refine lv_iconst (v := 1) hx hb d_law_156 (by decide) ?_
  refine lv_iadd hx hb d_law_157 ?_
  refine sc_ld (j := i + 1) X hXs hbl hbA hS (ni_1 i) (by omega) hL d_law_158 ?_
  refine lv_aload_n hx hb d_law_159 rfl (lv_at hl 0 rfl) ?_
  refine lv_iload hx hb d_law_160 (lv_at hl 4 rfl) ?_
  refine lv_iconst (v := 2) hx hb d_law_162 (by decide) ?_
  refine lv_iadd hx hb d_law_163 ?_
  refine sc_ld (j := i + 2) X hXs hbl hbA hS (ni_2 i) (by omega) hL d_law_164 ?_
  obtain ⟨p1, e1, h⟩ := bd_some h
  refine hs_S (As := [.ref (ad 0), .int (xs (i + 1)), .int (xs (i + 2))]) X (h_format e1) hZ hN htr hP hD hS kw_96 ⟨⟨Nat.le_of_ble_eq_true rfl, Nat.le_of_ble_eq_true rfl⟩, hcc, hss⟩ rfl hl.1 rfl (Nat.le_of_ble_eq_true rfl) d_law_165 (fun H locs hP hD hS => ?_)
  have hP : va_P D cls (wL ad ca adM caM o cO p1.2.2 gM p1.2.1) H := hP
  have hD : va_D A (wL ad ca adM caM o cO p1.2.2 gM p1.2.1) := hD
  refine lv_istore hx hb d_law_168 hl (by decide) rfl (fun ls hl => ?_)
  have hl : lv_has ls 7 [(5, .int (p1.1)), (0, .ref b), (1, .ref (ad 0)), (2, .ref (adM 0)), (3, .ref o), (4, .int (nI i))] := hl
  refine lv_aload_n hx hb d_law_170 rfl (lv_at hl 3 rfl) ?_
  refine lv_aload_n hx hb d_law_171 rfl (lv_at hl 1 rfl) ?_
  refine lv_iload hx hb d_law_172 (lv_at hl 5 rfl) ?_
  refine lv_iconst (v := 1) hx hb d_law_174 (by decide) ?_
  refine lv_iadd hx hb d_law_175 ?_
  refine sc_ld (j := i + 1) X hXs hbl hbA hS (ni_1 i) (by omega) hL d_law_176 ?_
  refine lv_aload_n hx hb d_law_177 rfl (lv_at hl 1 rfl) ?_
  refine lv_iload hx hb d_law_178 (lv_at hl 5 rfl) ?_
  refine lv_iconst (v := 2) hx hb d_law_180 (by decide) ?_
  refine lv_iadd hx hb d_law_181 ?_
  refine sc_ld (j := i + 2) X hXs hbl hbA hS (ni_2 i) (by omega) hL d_law_182 ?_
  obtain ⟨b2, e1, h⟩ := bd_some h
  refine fr_v (pre := wF ad ca p1.2.2) (w := wM adM caM gM) (post := [(o, .inl (cO, (1, .inr (.inl p1.2.1))))]) (X.on (vk_l (vk_r X.2.2.2.2.2.2.2.1))) (fg_runV (As := [.int (xs (i + 1)), .int (xs (i + 2))]) (X.on (vk_l (vk_r X.2.2.2.2.2.2.2.1))) (m_Mod_format e1 _) (vp_mid (pre := wF ad ca p1.2.2) (w := wM adM caM gM) (post := [(o, .inl (cO, (1, .inr (.inl p1.2.1))))]) hP) (vd_mid (pre := wF ad ca p1.2.2) (w := wM adM caM gM) (post := [(o, .inl (cO, (1, .inr (.inl p1.2.1))))]) hD) kv_LawM_101 ⟨⟨Nat.le_of_ble_eq_true rfl, Nat.le_of_ble_eq_true rfl⟩, by omega, by omega⟩ 0 rfl rfl rfl hl.1 rfl (Nat.le_of_ble_eq_true rfl) d_law_183) hP hD hS (fun H locs hP hD hS => ?_)
  have hP : va_P D cls (wL ad ca adM caM o cO p1.2.2 b2 p1.2.1) H := hP
  have hD : va_D A (wL ad ca adM caM o cO p1.2.2 b2 p1.2.1) := hD
  refine lv_aload_n hx hb d_law_186 rfl (lv_at hl 3 rfl) ?_
  obtain ⟨b3, e1, h⟩ := bd_some h
  refine fr_i (pre := wF ad ca p1.2.2) (w := wM adM caM b2) (post := [(o, .inl (cO, (1, .inr (.inl p1.2.1))))]) (X.on (vk_l (vk_r X.2.2.2.2.2.2.2.1))) (fg_runV (As := []) (X.on (vk_l (vk_r X.2.2.2.2.2.2.2.1))) (m_Mod_thrown e1 _) (vp_mid (pre := wF ad ca p1.2.2) (w := wM adM caM b2) (post := [(o, .inl (cO, (1, .inr (.inl p1.2.1))))]) hP) (vd_mid (pre := wF ad ca p1.2.2) (w := wM adM caM b2) (post := [(o, .inl (cO, (1, .inr (.inl p1.2.1))))]) hD) kv_LawM_102 ⟨⟨Nat.le_of_ble_eq_true rfl, Nat.le_of_ble_eq_true rfl⟩, by omega, by omega⟩ 0 rfl rfl rfl hl.1 rfl (Nat.le_of_ble_eq_true rfl) d_law_187) hP hD hS (fun H locs hP hD hS => ?_)
  have hP : va_P D cls (wL ad ca adM caM o cO p1.2.2 b2 p1.2.1) H := hP
  have hD : va_D A (wL ad ca adM caM o cO p1.2.2 b2 p1.2.1) := hD
  refine lv_iload hx hb d_law_190 (lv_at hl 0 rfl) ?_
  refine lv_icmp_eq (tgt := 197) hx hb d_law_192 (by decide) (fun hc => ?_) (fun hc => ?_)
  · have h := if_t hc h
    refine lv_goto (tgt := 1529) hx hb d_law_197 (by decide) ?_
    cases h
    exact kk _ _ _ hP hD hS (lv_sub hl [1, 2, 3, 4, 5] rfl)
  · have h := if_f hc h
    cases h
set_option maxHeartbeats 4000000 in
set_option maxRecDepth 100000 in
theorem lc_1 {p : Program} {l : Launch} {e : Env} {s : State} {m : MethodId} {below : List Frame} {meth : Method} {c : Code} {D : va_G} {ad : Nat → Nat} {ca : Nat → ClassId} {adM : Nat → Nat} {caM : Nat → ClassId} {o : Nat} {cO : ClassId} {A : Nat → Prop} {FU b L i : Nat} {xs : Nat → Int32} {Q : State → Prop} {cells slots : Nat} (X : FX p s m meth c code 7 ret "FlashFilesLaw" D (tyL ca caM cO) A) (hZ : ZS A s) (hN : NC s) (htr : l.stackTraces = false) (hXs : va_X b L xs s s.heap) (hbl : b < s.heap.size) (hbA : ¬ A b) (hL : L ≤ 3072) (hi : i + 6 ≤ L) (hcc : cells + 1 ≤ room_1.cells) (hss : slots + 6 ≤ room_1.slots) {g gM : St} {f : Nat → Int64} {r : (Nat → Int64) × St × St} {H : Heap} {locs : List Loc} {ls : Array Slot} (hP : va_P D cls (wL ad ca adM caM o cO g gM f) H) (hD : va_D A (wL ad ca adM caM o cO g gM f)) (hS : va_S A s.heap H locs) (hl : lv_has ls 7 [(0, .ref b), (1, .ref (ad 0)), (2, .ref (adM 0)), (3, .ref o), (4, .int (nI i))]) (h : lawC1 FU xs i f g gM = some r)
    (kk : ∀ (H : Heap) (locs : List Loc) (ls : Array Slot), va_P D cls (wL ad ca adM caM o cO r.2.1 r.2.2 r.1) H → va_D A (wL ad ca adM caM o cO r.2.1 r.2.2 r.1) → va_S A s.heap H locs → lv_has ls 7 [(0, .ref b), (1, .ref (ad 0)), (2, .ref (adM 0)), (3, .ref o), (4, .int (nI i))] → W p l e room_1 s m #[Value.ref b] below meth c H locs (cells + 1) (slots + 6) Q (F0 m 1529 ls [])) : W p l e room_1 s m #[Value.ref b] below meth c H locs cells slots Q (F0 m 200 ls []) := by
  have hx := X.1
  have hb := X.2.1
  unfold lawC1 at h
  refine lv_aload_n hx hb d_law_200 rfl (lv_at hl 1 rfl) ?_
  refine lv_aload_n hx hb d_law_201 rfl (lv_at hl 0 rfl) ?_
  refine lv_iload hx hb d_law_202 (lv_at hl 4 rfl) ?_
  refine lv_iconst (v := 1) hx hb d_law_204 (by decide) ?_
  refine lv_iadd hx hb d_law_205 ?_
  refine sc_ld (j := i + 1) X hXs hbl hbA hS (ni_1 i) (by omega) hL d_law_206 ?_
  refine lv_aload_n hx hb d_law_207 rfl (lv_at hl 0 rfl) ?_
  refine lv_iload hx hb d_law_208 (lv_at hl 4 rfl) ?_
  refine lv_iconst (v := 2) hx hb d_law_210 (by decide) ?_
  refine lv_iadd hx hb d_law_211 ?_
  refine sc_ld (j := i + 2) X hXs hbl hbA hS (ni_2 i) (by omega) hL d_law_212 ?_
  refine lv_aload_n hx hb d_law_213 rfl (lv_at hl 0 rfl) ?_
  refine lv_iload hx hb d_law_214 (lv_at hl 4 rfl) ?_
  refine lv_iconst (v := 3) hx hb d_law_216 (by decide) ?_
  refine lv_iadd hx hb d_law_217 ?_
  refine sc_ld (j := i + 3) X hXs hbl hbA hS (ni_3 i) (by omega) hL d_law_218 ?_
  refine lv_aload_n hx hb d_law_219 rfl (lv_at hl 0 rfl) ?_
  refine lv_iload hx hb d_law_220 (lv_at hl 4 rfl) ?_
  refine lv_iconst (v := 4) hx hb d_law_222 (by decide) ?_
  refine lv_iadd hx hb d_law_223 ?_
  refine sc_ld (j := i + 4) X hXs hbl hbA hS (ni_4 i) (by omega) hL d_law_224 ?_
  refine lv_aload_n hx hb d_law_225 rfl (lv_at hl 0 rfl) ?_
  refine lv_iload hx hb d_law_226 (lv_at hl 4 rfl) ?_
  refine lv_iconst (v := 5) hx hb d_law_228 (by decide) ?_
  refine lv_iadd hx hb d_law_229 ?_
  refine sc_ld (j := i + 5) X hXs hbl hbA hS (ni_5 i) (by omega) hL d_law_230 ?_
  refine lv_aload_n hx hb d_law_231 rfl (lv_at hl 3 rfl) ?_
  obtain ⟨p1, e1, h⟩ := bd_some h
  refine hs_S (As := [.ref (ad 0), .int (xs (i + 1)), .int (xs (i + 2)), .int (xs (i + 3)), .int (xs (i + 4)), .int (xs (i + 5)), .ref o]) X (h_feed e1) hZ hN htr hP hD hS kw_105 ⟨⟨Nat.le_of_ble_eq_true rfl, Nat.le_of_ble_eq_true rfl⟩, hcc, hss⟩ rfl hl.1 rfl (Nat.le_of_ble_eq_true rfl) d_law_232 (fun H locs hP hD hS => ?_)
  have hP : va_P D cls (wL ad ca adM caM o cO p1.2.2 gM p1.2.1) H := hP
  have hD : va_D A (wL ad ca adM caM o cO p1.2.2 gM p1.2.1) := hD
  refine lv_istore hx hb d_law_235 hl (by decide) rfl (fun ls hl => ?_)
  have hl : lv_has ls 7 [(5, .int (p1.1)), (0, .ref b), (1, .ref (ad 0)), (2, .ref (adM 0)), (3, .ref o), (4, .int (nI i))] := hl
  refine lv_aload_n hx hb d_law_237 rfl (lv_at hl 3 rfl) ?_
  refine lv_aload_n hx hb d_law_238 rfl (lv_at hl 1 rfl) ?_
  refine lv_iload hx hb d_law_239 (lv_at hl 5 rfl) ?_
  refine lv_iconst (v := 1) hx hb d_law_241 (by decide) ?_
  refine lv_iadd hx hb d_law_242 ?_
  refine sc_ld (j := i + 1) X hXs hbl hbA hS (ni_1 i) (by omega) hL d_law_243 ?_
  refine lv_aload_n hx hb d_law_244 rfl (lv_at hl 1 rfl) ?_
  refine lv_iload hx hb d_law_245 (lv_at hl 5 rfl) ?_
  refine lv_iconst (v := 2) hx hb d_law_247 (by decide) ?_
  refine lv_iadd hx hb d_law_248 ?_
  refine sc_ld (j := i + 2) X hXs hbl hbA hS (ni_2 i) (by omega) hL d_law_249 ?_
  refine lv_aload_n hx hb d_law_250 rfl (lv_at hl 1 rfl) ?_
  refine lv_iload hx hb d_law_251 (lv_at hl 5 rfl) ?_
  refine lv_iconst (v := 3) hx hb d_law_253 (by decide) ?_
  refine lv_iadd hx hb d_law_254 ?_
  refine sc_ld (j := i + 3) X hXs hbl hbA hS (ni_3 i) (by omega) hL d_law_255 ?_
  refine lv_aload_n hx hb d_law_256 rfl (lv_at hl 1 rfl) ?_
  refine lv_iload hx hb d_law_257 (lv_at hl 5 rfl) ?_
  refine lv_iconst (v := 4) hx hb d_law_259 (by decide) ?_
  refine lv_iadd hx hb d_law_260 ?_
  refine sc_ld (j := i + 4) X hXs hbl hbA hS (ni_4 i) (by omega) hL d_law_261 ?_
  refine lv_aload_n hx hb d_law_262 rfl (lv_at hl 1 rfl) ?_
  refine lv_iload hx hb d_law_263 (lv_at hl 5 rfl) ?_
  refine lv_iconst (v := 5) hx hb d_law_265 (by decide) ?_
  refine lv_iadd hx hb d_law_266 ?_
  refine sc_ld (j := i + 5) X hXs hbl hbA hS (ni_5 i) (by omega) hL d_law_267 ?_
  obtain ⟨b2, e1, h⟩ := bd_some h
  refine fr_i (pre := wF ad ca p1.2.2) (w := wM adM caM gM) (post := [(o, .inl (cO, (1, .inr (.inl p1.2.1))))]) (X.on (vk_l (vk_r X.2.2.2.2.2.2.2.1))) (fg_runV (As := [.int (xs (i + 1)), .int (xs (i + 2)), .int (xs (i + 3)), .int (xs (i + 4)), .int (xs (i + 5))]) (X.on (vk_l (vk_r X.2.2.2.2.2.2.2.1))) (m_Mod_feed e1 _) (vp_mid (pre := wF ad ca p1.2.2) (w := wM adM caM gM) (post := [(o, .inl (cO, (1, .inr (.inl p1.2.1))))]) hP) (vd_mid (pre := wF ad ca p1.2.2) (w := wM adM caM gM) (post := [(o, .inl (cO, (1, .inr (.inl p1.2.1))))]) hD) kv_LawM_108 ⟨⟨Nat.le_of_ble_eq_true rfl, Nat.le_of_ble_eq_true rfl⟩, by omega, by omega⟩ 0 rfl rfl rfl hl.1 rfl (Nat.le_of_ble_eq_true rfl) d_law_268) hP hD hS (fun H locs hP hD hS => ?_)
  have hP : va_P D cls (wL ad ca adM caM o cO p1.2.2 b2.2 p1.2.1) H := hP
  have hD : va_D A (wL ad ca adM caM o cO p1.2.2 b2.2 p1.2.1) := hD
  refine lv_istore hx hb d_law_271 hl (by decide) rfl (fun ls hl => ?_)
  have hl : lv_has ls 7 [(6, .int (b2.1)), (5, .int (p1.1)), (0, .ref b), (1, .ref (ad 0)), (2, .ref (adM 0)), (3, .ref o), (4, .int (nI i))] := hl
  refine lv_aload_n hx hb d_law_273 rfl (lv_at hl 4 rfl) ?_
  obtain ⟨b3, e1, h⟩ := bd_some h
  refine fr_i (pre := wF ad ca p1.2.2) (w := wM adM caM b2.2) (post := [(o, .inl (cO, (1, .inr (.inl p1.2.1))))]) (X.on (vk_l (vk_r X.2.2.2.2.2.2.2.1))) (fg_runV (As := []) (X.on (vk_l (vk_r X.2.2.2.2.2.2.2.1))) (m_Mod_thrown e1 _) (vp_mid (pre := wF ad ca p1.2.2) (w := wM adM caM b2.2) (post := [(o, .inl (cO, (1, .inr (.inl p1.2.1))))]) hP) (vd_mid (pre := wF ad ca p1.2.2) (w := wM adM caM b2.2) (post := [(o, .inl (cO, (1, .inr (.inl p1.2.1))))]) hD) kv_LawM_102 ⟨⟨Nat.le_of_ble_eq_true rfl, Nat.le_of_ble_eq_true rfl⟩, by omega, by omega⟩ 0 rfl rfl rfl hl.1 rfl (Nat.le_of_ble_eq_true rfl) d_law_274) hP hD hS (fun H locs hP hD hS => ?_)
  have hP : va_P D cls (wL ad ca adM caM o cO p1.2.2 b2.2 p1.2.1) H := hP
  have hD : va_D A (wL ad ca adM caM o cO p1.2.2 b2.2 p1.2.1) := hD
  refine lv_iload hx hb d_law_277 (lv_at hl 1 rfl) ?_
  refine lv_icmp_eq (tgt := 284) hx hb d_law_279 (by decide) (fun hc => ?_) (fun hc => ?_)
  · have h := if_t hc h
    refine lv_iload hx hb d_law_284 (lv_at hl 1 rfl) ?_
    refine lv_if_ne (tgt := 301) hx hb d_law_286 (by decide) (fun hc => ?_) (fun hc => ?_)
    · have h := if_f hc h
      refine lv_goto (tgt := 1529) hx hb d_law_301 (by decide) ?_
      cases h
      exact kk _ _ _ hP hD hS (lv_sub hl [2, 3, 4, 5, 6] rfl)
    · have h := if_t hc h
      refine lv_aload_n hx hb d_law_289 rfl (lv_at hl 5 rfl) ?_
      refine lv_iconst (v := 0) hx hb d_law_290 (by decide) ?_
      refine lw_lald X hP d_law_291 ?_
      refine lv_iload hx hb d_law_292 (lv_at hl 0 rfl) ?_
      refine lv_i2l (v := (b2.1).toInt64) hx hb d_law_294 rfl ?_
      refine W.lcmp hx hb d_law_295 ?_
      refine lv_if_eq (tgt := 301) hx hb d_law_296 (by decide) (fun hc => ?_) (fun hc => ?_)
      · have h := if_t hc h
        refine lv_goto (tgt := 1529) hx hb d_law_301 (by decide) ?_
        cases h
        exact kk _ _ _ hP hD hS (lv_sub hl [2, 3, 4, 5, 6] rfl)
      · have h := if_f hc h
        cases h
  · have h := if_f hc h
    cases h
set_option maxHeartbeats 4000000 in
set_option maxRecDepth 100000 in
theorem lc_2 {p : Program} {l : Launch} {e : Env} {s : State} {m : MethodId} {below : List Frame} {meth : Method} {c : Code} {D : va_G} {ad : Nat → Nat} {ca : Nat → ClassId} {adM : Nat → Nat} {caM : Nat → ClassId} {o : Nat} {cO : ClassId} {A : Nat → Prop} {FU b L i : Nat} {xs : Nat → Int32} {Q : State → Prop} {cells slots : Nat} (X : FX p s m meth c code 7 ret "FlashFilesLaw" D (tyL ca caM cO) A) (hZ : ZS A s) (hN : NC s) (htr : l.stackTraces = false) (hXs : va_X b L xs s s.heap) (hbl : b < s.heap.size) (hbA : ¬ A b) (hL : L ≤ 3072) (hi : i + 6 ≤ L) (hcc : cells + 1 ≤ room_1.cells) (hss : slots + 6 ≤ room_1.slots) {g gM : St} {f : Nat → Int64} {r : (Nat → Int64) × St × St} {H : Heap} {locs : List Loc} {ls : Array Slot} (hP : va_P D cls (wL ad ca adM caM o cO g gM f) H) (hD : va_D A (wL ad ca adM caM o cO g gM f)) (hS : va_S A s.heap H locs) (hl : lv_has ls 7 [(0, .ref b), (1, .ref (ad 0)), (2, .ref (adM 0)), (3, .ref o), (4, .int (nI i))]) (h : lawC2 FU xs i f g gM = some r)
    (kk : ∀ (H : Heap) (locs : List Loc) (ls : Array Slot), va_P D cls (wL ad ca adM caM o cO r.2.1 r.2.2 r.1) H → va_D A (wL ad ca adM caM o cO r.2.1 r.2.2 r.1) → va_S A s.heap H locs → lv_has ls 7 [(0, .ref b), (1, .ref (ad 0)), (2, .ref (adM 0)), (3, .ref o), (4, .int (nI i))] → W p l e room_1 s m #[Value.ref b] below meth c H locs (cells + 1) (slots + 6) Q (F0 m 1529 ls [])) : W p l e room_1 s m #[Value.ref b] below meth c H locs cells slots Q (F0 m 304 ls []) := by
  have hx := X.1
  have hb := X.2.1
  unfold lawC2 at h
  refine lv_aload_n hx hb d_law_304 rfl (lv_at hl 1 rfl) ?_
  refine lv_aload_n hx hb d_law_305 rfl (lv_at hl 0 rfl) ?_
  refine lv_iload hx hb d_law_306 (lv_at hl 4 rfl) ?_
  refine lv_iconst (v := 1) hx hb d_law_308 (by decide) ?_
  refine lv_iadd hx hb d_law_309 ?_
  refine sc_ld (j := i + 1) X hXs hbl hbA hS (ni_1 i) (by omega) hL d_law_310 ?_
  obtain ⟨b1, e1, h⟩ := bd_some h
  refine fr_i (pre := []) (w := wF ad ca g) (post := wM adM caM gM ++ [(o, .inl (cO, (1, .inr (.inl f))))]) (X.on (vk_l X.2.2.2.2.2.2.2.1)) (fg_runV (As := [.int (xs (i + 1))]) (X.on (vk_l X.2.2.2.2.2.2.2.1)) (m_FF_tape e1 _) (vp_mid (pre := []) (w := wF ad ca g) (post := wM adM caM gM ++ [(o, .inl (cO, (1, .inr (.inl f))))]) hP) (vd_mid (pre := []) (w := wF ad ca g) (post := wM adM caM gM ++ [(o, .inl (cO, (1, .inr (.inl f))))]) hD) kv_LawM_109 ⟨⟨Nat.le_of_ble_eq_true rfl, Nat.le_of_ble_eq_true rfl⟩, by omega, by omega⟩ 0 rfl rfl rfl hl.1 rfl (Nat.le_of_ble_eq_true rfl) d_law_311) hP hD hS (fun H locs hP hD hS => ?_)
  have hP : va_P D cls (wL ad ca adM caM o cO b1.2 gM f) H := hP
  have hD : va_D A (wL ad ca adM caM o cO b1.2 gM f) := hD
  refine lv_aload_n hx hb d_law_314 rfl (lv_at hl 2 rfl) ?_
  refine lv_aload_n hx hb d_law_315 rfl (lv_at hl 0 rfl) ?_
  refine lv_iload hx hb d_law_316 (lv_at hl 4 rfl) ?_
  refine lv_iconst (v := 1) hx hb d_law_318 (by decide) ?_
  refine lv_iadd hx hb d_law_319 ?_
  refine sc_ld (j := i + 1) X hXs hbl hbA hS (ni_1 i) (by omega) hL d_law_320 ?_
  obtain ⟨b2, e1, h⟩ := bd_some h
  refine fr_i (pre := wF ad ca b1.2) (w := wM adM caM gM) (post := [(o, .inl (cO, (1, .inr (.inl f))))]) (X.on (vk_l (vk_r X.2.2.2.2.2.2.2.1))) (fg_runV (As := [.int (xs (i + 1))]) (X.on (vk_l (vk_r X.2.2.2.2.2.2.2.1))) (m_Mod_tape e1 _) (vp_mid (pre := wF ad ca b1.2) (w := wM adM caM gM) (post := [(o, .inl (cO, (1, .inr (.inl f))))]) hP) (vd_mid (pre := wF ad ca b1.2) (w := wM adM caM gM) (post := [(o, .inl (cO, (1, .inr (.inl f))))]) hD) kv_LawM_112 ⟨⟨Nat.le_of_ble_eq_true rfl, Nat.le_of_ble_eq_true rfl⟩, by omega, by omega⟩ 0 rfl rfl rfl hl.1 rfl (Nat.le_of_ble_eq_true rfl) d_law_321) hP hD hS (fun H locs hP hD hS => ?_)
  have hP : va_P D cls (wL ad ca adM caM o cO b1.2 b2.2 f) H := hP
  have hD : va_D A (wL ad ca adM caM o cO b1.2 b2.2 f) := hD
  refine lv_icmp_eq (tgt := 1529) hx hb d_law_324 (by decide) (fun hc => ?_) (fun hc => ?_)
  · have h := if_t hc h
    refine W.widen (k := cells + 1) (n := slots + 6) (by omega) (by omega) ?_
    cases h
    exact kk _ _ _ hP hD hS (lv_sub hl [0, 1, 2, 3, 4] rfl)
  · have h := if_f hc h
    cases h
set_option maxHeartbeats 4000000 in
set_option maxRecDepth 100000 in
theorem lc_3 {p : Program} {l : Launch} {e : Env} {s : State} {m : MethodId} {below : List Frame} {meth : Method} {c : Code} {D : va_G} {ad : Nat → Nat} {ca : Nat → ClassId} {adM : Nat → Nat} {caM : Nat → ClassId} {o : Nat} {cO : ClassId} {A : Nat → Prop} {FU b L i : Nat} {xs : Nat → Int32} {Q : State → Prop} {cells slots : Nat} (X : FX p s m meth c code 7 ret "FlashFilesLaw" D (tyL ca caM cO) A) (hZ : ZS A s) (hN : NC s) (htr : l.stackTraces = false) (hXs : va_X b L xs s s.heap) (hbl : b < s.heap.size) (hbA : ¬ A b) (hL : L ≤ 3072) (hi : i + 6 ≤ L) (hcc : cells + 1 ≤ room_1.cells) (hss : slots + 6 ≤ room_1.slots) {g gM : St} {f : Nat → Int64} {r : (Nat → Int64) × St × St} {H : Heap} {locs : List Loc} {ls : Array Slot} (hP : va_P D cls (wL ad ca adM caM o cO g gM f) H) (hD : va_D A (wL ad ca adM caM o cO g gM f)) (hS : va_S A s.heap H locs) (hl : lv_has ls 7 [(0, .ref b), (1, .ref (ad 0)), (2, .ref (adM 0)), (3, .ref o), (4, .int (nI i))]) (h : lawC3 FU xs i f g gM = some r)
    (kk : ∀ (H : Heap) (locs : List Loc) (ls : Array Slot), va_P D cls (wL ad ca adM caM o cO r.2.1 r.2.2 r.1) H → va_D A (wL ad ca adM caM o cO r.2.1 r.2.2 r.1) → va_S A s.heap H locs → lv_has ls 7 [(0, .ref b), (1, .ref (ad 0)), (2, .ref (adM 0)), (3, .ref o), (4, .int (nI i))] → W p l e room_1 s m #[Value.ref b] below meth c H locs (cells + 1) (slots + 6) Q (F0 m 1529 ls [])) : W p l e room_1 s m #[Value.ref b] below meth c H locs cells slots Q (F0 m 329 ls []) := by
  have hx := X.1
  have hb := X.2.1
  unfold lawC3 at h
  refine lv_aload_n hx hb d_law_329 rfl (lv_at hl 1 rfl) ?_
  refine lv_aload_n hx hb d_law_330 rfl (lv_at hl 0 rfl) ?_
  refine lv_iload hx hb d_law_331 (lv_at hl 4 rfl) ?_
  refine lv_iconst (v := 1) hx hb d_law_333 (by decide) ?_
  refine lv_iadd hx hb d_law_334 ?_
  refine sc_ld (j := i + 1) X hXs hbl hbA hS (ni_1 i) (by omega) hL d_law_335 ?_
  refine lv_aload_n hx hb d_law_336 rfl (lv_at hl 0 rfl) ?_
  refine lv_iload hx hb d_law_337 (lv_at hl 4 rfl) ?_
  refine lv_iconst (v := 2) hx hb d_law_339 (by decide) ?_
  refine lv_iadd hx hb d_law_340 ?_
  refine sc_ld (j := i + 2) X hXs hbl hbA hS (ni_2 i) (by omega) hL d_law_341 ?_
  refine lv_aload_n hx hb d_law_342 rfl (lv_at hl 3 rfl) ?_
  obtain ⟨p1, e1, h⟩ := bd_some h
  refine hs_S (As := [.ref (ad 0), .int (xs (i + 1)), .int (xs (i + 2)), .ref o]) X (h_make e1) hZ hN htr hP hD hS kw_113 ⟨⟨Nat.le_of_ble_eq_true rfl, Nat.le_of_ble_eq_true rfl⟩, hcc, hss⟩ rfl hl.1 rfl (Nat.le_of_ble_eq_true rfl) d_law_343 (fun H locs hP hD hS => ?_)
  have hP : va_P D cls (wL ad ca adM caM o cO p1.2.2 gM p1.2.1) H := hP
  have hD : va_D A (wL ad ca adM caM o cO p1.2.2 gM p1.2.1) := hD
  refine lv_istore hx hb d_law_346 hl (by decide) rfl (fun ls hl => ?_)
  have hl : lv_has ls 7 [(5, .int (p1.1)), (0, .ref b), (1, .ref (ad 0)), (2, .ref (adM 0)), (3, .ref o), (4, .int (nI i))] := hl
  refine lv_aload_n hx hb d_law_348 rfl (lv_at hl 3 rfl) ?_
  refine lv_aload_n hx hb d_law_349 rfl (lv_at hl 1 rfl) ?_
  refine lv_iload hx hb d_law_350 (lv_at hl 5 rfl) ?_
  refine lv_iconst (v := 1) hx hb d_law_352 (by decide) ?_
  refine lv_iadd hx hb d_law_353 ?_
  refine sc_ld (j := i + 1) X hXs hbl hbA hS (ni_1 i) (by omega) hL d_law_354 ?_
  refine lv_aload_n hx hb d_law_355 rfl (lv_at hl 1 rfl) ?_
  refine lv_iload hx hb d_law_356 (lv_at hl 5 rfl) ?_
  refine lv_iconst (v := 2) hx hb d_law_358 (by decide) ?_
  refine lv_iadd hx hb d_law_359 ?_
  refine sc_ld (j := i + 2) X hXs hbl hbA hS (ni_2 i) (by omega) hL d_law_360 ?_
  obtain ⟨b2, e1, h⟩ := bd_some h
  refine fr_i (pre := wF ad ca p1.2.2) (w := wM adM caM gM) (post := [(o, .inl (cO, (1, .inr (.inl p1.2.1))))]) (X.on (vk_l (vk_r X.2.2.2.2.2.2.2.1))) (fg_runV (As := [.int (xs (i + 1)), .int (xs (i + 2))]) (X.on (vk_l (vk_r X.2.2.2.2.2.2.2.1))) (m_Mod_make e1 _) (vp_mid (pre := wF ad ca p1.2.2) (w := wM adM caM gM) (post := [(o, .inl (cO, (1, .inr (.inl p1.2.1))))]) hP) (vd_mid (pre := wF ad ca p1.2.2) (w := wM adM caM gM) (post := [(o, .inl (cO, (1, .inr (.inl p1.2.1))))]) hD) kv_LawM_116 ⟨⟨Nat.le_of_ble_eq_true rfl, Nat.le_of_ble_eq_true rfl⟩, by omega, by omega⟩ 0 rfl rfl rfl hl.1 rfl (Nat.le_of_ble_eq_true rfl) d_law_361) hP hD hS (fun H locs hP hD hS => ?_)
  have hP : va_P D cls (wL ad ca adM caM o cO p1.2.2 b2.2 p1.2.1) H := hP
  have hD : va_D A (wL ad ca adM caM o cO p1.2.2 b2.2 p1.2.1) := hD
  refine lv_istore hx hb d_law_364 hl (by decide) rfl (fun ls hl => ?_)
  have hl : lv_has ls 7 [(6, .int (b2.1)), (5, .int (p1.1)), (0, .ref b), (1, .ref (ad 0)), (2, .ref (adM 0)), (3, .ref o), (4, .int (nI i))] := hl
  refine lv_aload_n hx hb d_law_366 rfl (lv_at hl 4 rfl) ?_
  obtain ⟨b3, e1, h⟩ := bd_some h
  refine fr_i (pre := wF ad ca p1.2.2) (w := wM adM caM b2.2) (post := [(o, .inl (cO, (1, .inr (.inl p1.2.1))))]) (X.on (vk_l (vk_r X.2.2.2.2.2.2.2.1))) (fg_runV (As := []) (X.on (vk_l (vk_r X.2.2.2.2.2.2.2.1))) (m_Mod_thrown e1 _) (vp_mid (pre := wF ad ca p1.2.2) (w := wM adM caM b2.2) (post := [(o, .inl (cO, (1, .inr (.inl p1.2.1))))]) hP) (vd_mid (pre := wF ad ca p1.2.2) (w := wM adM caM b2.2) (post := [(o, .inl (cO, (1, .inr (.inl p1.2.1))))]) hD) kv_LawM_102 ⟨⟨Nat.le_of_ble_eq_true rfl, Nat.le_of_ble_eq_true rfl⟩, by omega, by omega⟩ 0 rfl rfl rfl hl.1 rfl (Nat.le_of_ble_eq_true rfl) d_law_367) hP hD hS (fun H locs hP hD hS => ?_)
  have hP : va_P D cls (wL ad ca adM caM o cO p1.2.2 b2.2 p1.2.1) H := hP
  have hD : va_D A (wL ad ca adM caM o cO p1.2.2 b2.2 p1.2.1) := hD
  refine lv_iload hx hb d_law_370 (lv_at hl 1 rfl) ?_
  refine lv_icmp_eq (tgt := 377) hx hb d_law_372 (by decide) (fun hc => ?_) (fun hc => ?_)
  · have h := if_t hc h
    refine lv_iload hx hb d_law_377 (lv_at hl 1 rfl) ?_
    refine lv_if_ne (tgt := 394) hx hb d_law_379 (by decide) (fun hc => ?_) (fun hc => ?_)
    · have h := if_f hc h
      refine lv_goto (tgt := 1529) hx hb d_law_394 (by decide) ?_
      cases h
      exact kk _ _ _ hP hD hS (lv_sub hl [2, 3, 4, 5, 6] rfl)
    · have h := if_t hc h
      refine lv_aload_n hx hb d_law_382 rfl (lv_at hl 5 rfl) ?_
      refine lv_iconst (v := 0) hx hb d_law_383 (by decide) ?_
      refine lw_lald X hP d_law_384 ?_
      refine lv_iload hx hb d_law_385 (lv_at hl 0 rfl) ?_
      refine lv_i2l (v := (b2.1).toInt64) hx hb d_law_387 rfl ?_
      refine W.lcmp hx hb d_law_388 ?_
      refine lv_if_eq (tgt := 394) hx hb d_law_389 (by decide) (fun hc => ?_) (fun hc => ?_)
      · have h := if_t hc h
        refine lv_goto (tgt := 1529) hx hb d_law_394 (by decide) ?_
        cases h
        exact kk _ _ _ hP hD hS (lv_sub hl [2, 3, 4, 5, 6] rfl)
      · have h := if_f hc h
        cases h
  · have h := if_f hc h
    cases h
set_option maxHeartbeats 4000000 in
set_option maxRecDepth 100000 in
theorem lc_4 {p : Program} {l : Launch} {e : Env} {s : State} {m : MethodId} {below : List Frame} {meth : Method} {c : Code} {D : va_G} {ad : Nat → Nat} {ca : Nat → ClassId} {adM : Nat → Nat} {caM : Nat → ClassId} {o : Nat} {cO : ClassId} {A : Nat → Prop} {FU b L i : Nat} {xs : Nat → Int32} {Q : State → Prop} {cells slots : Nat} (X : FX p s m meth c code 7 ret "FlashFilesLaw" D (tyL ca caM cO) A) (hZ : ZS A s) (hN : NC s) (htr : l.stackTraces = false) (hXs : va_X b L xs s s.heap) (hbl : b < s.heap.size) (hbA : ¬ A b) (hL : L ≤ 3072) (hi : i + 6 ≤ L) (hcc : cells + 1 ≤ room_1.cells) (hss : slots + 6 ≤ room_1.slots) {g gM : St} {f : Nat → Int64} {r : (Nat → Int64) × St × St} {H : Heap} {locs : List Loc} {ls : Array Slot} (hP : va_P D cls (wL ad ca adM caM o cO g gM f) H) (hD : va_D A (wL ad ca adM caM o cO g gM f)) (hS : va_S A s.heap H locs) (hl : lv_has ls 7 [(0, .ref b), (1, .ref (ad 0)), (2, .ref (adM 0)), (3, .ref o), (4, .int (nI i))]) (h : lawC4 FU xs i f g gM = some r)
    (kk : ∀ (H : Heap) (locs : List Loc) (ls : Array Slot), va_P D cls (wL ad ca adM caM o cO r.2.1 r.2.2 r.1) H → va_D A (wL ad ca adM caM o cO r.2.1 r.2.2 r.1) → va_S A s.heap H locs → lv_has ls 7 [(0, .ref b), (1, .ref (ad 0)), (2, .ref (adM 0)), (3, .ref o), (4, .int (nI i))] → W p l e room_1 s m #[Value.ref b] below meth c H locs (cells + 1) (slots + 6) Q (F0 m 1529 ls [])) : W p l e room_1 s m #[Value.ref b] below meth c H locs cells slots Q (F0 m 397 ls []) := by
  have hx := X.1
  have hb := X.2.1
  unfold lawC4 at h
  refine lv_aload_n hx hb d_law_397 rfl (lv_at hl 1 rfl) ?_
  refine lv_aload_n hx hb d_law_398 rfl (lv_at hl 0 rfl) ?_
  refine lv_iload hx hb d_law_399 (lv_at hl 4 rfl) ?_
  refine lv_iconst (v := 1) hx hb d_law_401 (by decide) ?_
  refine lv_iadd hx hb d_law_402 ?_
  refine sc_ld (j := i + 1) X hXs hbl hbA hS (ni_1 i) (by omega) hL d_law_403 ?_
  refine lv_aload_n hx hb d_law_404 rfl (lv_at hl 0 rfl) ?_
  refine lv_iload hx hb d_law_405 (lv_at hl 4 rfl) ?_
  refine lv_iconst (v := 2) hx hb d_law_407 (by decide) ?_
  refine lv_iadd hx hb d_law_408 ?_
  refine sc_ld (j := i + 2) X hXs hbl hbA hS (ni_2 i) (by omega) hL d_law_409 ?_
  refine lv_aload_n hx hb d_law_410 rfl (lv_at hl 3 rfl) ?_
  obtain ⟨p1, e1, h⟩ := bd_some h
  refine hs_S (As := [.ref (ad 0), .int (xs (i + 1)), .int (xs (i + 2)), .ref o]) X (h_makeDirectory e1) hZ hN htr hP hD hS kw_117 ⟨⟨Nat.le_of_ble_eq_true rfl, Nat.le_of_ble_eq_true rfl⟩, hcc, hss⟩ rfl hl.1 rfl (Nat.le_of_ble_eq_true rfl) d_law_411 (fun H locs hP hD hS => ?_)
  have hP : va_P D cls (wL ad ca adM caM o cO p1.2.2 gM p1.2.1) H := hP
  have hD : va_D A (wL ad ca adM caM o cO p1.2.2 gM p1.2.1) := hD
  refine lv_istore hx hb d_law_414 hl (by decide) rfl (fun ls hl => ?_)
  have hl : lv_has ls 7 [(5, .int (p1.1)), (0, .ref b), (1, .ref (ad 0)), (2, .ref (adM 0)), (3, .ref o), (4, .int (nI i))] := hl
  refine lv_aload_n hx hb d_law_416 rfl (lv_at hl 3 rfl) ?_
  refine lv_aload_n hx hb d_law_417 rfl (lv_at hl 1 rfl) ?_
  refine lv_iload hx hb d_law_418 (lv_at hl 5 rfl) ?_
  refine lv_iconst (v := 1) hx hb d_law_420 (by decide) ?_
  refine lv_iadd hx hb d_law_421 ?_
  refine sc_ld (j := i + 1) X hXs hbl hbA hS (ni_1 i) (by omega) hL d_law_422 ?_
  refine lv_aload_n hx hb d_law_423 rfl (lv_at hl 1 rfl) ?_
  refine lv_iload hx hb d_law_424 (lv_at hl 5 rfl) ?_
  refine lv_iconst (v := 2) hx hb d_law_426 (by decide) ?_
  refine lv_iadd hx hb d_law_427 ?_
  refine sc_ld (j := i + 2) X hXs hbl hbA hS (ni_2 i) (by omega) hL d_law_428 ?_
  obtain ⟨b2, e1, h⟩ := bd_some h
  refine fr_i (pre := wF ad ca p1.2.2) (w := wM adM caM gM) (post := [(o, .inl (cO, (1, .inr (.inl p1.2.1))))]) (X.on (vk_l (vk_r X.2.2.2.2.2.2.2.1))) (fg_runV (As := [.int (xs (i + 1)), .int (xs (i + 2))]) (X.on (vk_l (vk_r X.2.2.2.2.2.2.2.1))) (m_Mod_makeDirectory e1 _) (vp_mid (pre := wF ad ca p1.2.2) (w := wM adM caM gM) (post := [(o, .inl (cO, (1, .inr (.inl p1.2.1))))]) hP) (vd_mid (pre := wF ad ca p1.2.2) (w := wM adM caM gM) (post := [(o, .inl (cO, (1, .inr (.inl p1.2.1))))]) hD) kv_LawM_119 ⟨⟨Nat.le_of_ble_eq_true rfl, Nat.le_of_ble_eq_true rfl⟩, by omega, by omega⟩ 0 rfl rfl rfl hl.1 rfl (Nat.le_of_ble_eq_true rfl) d_law_429) hP hD hS (fun H locs hP hD hS => ?_)
  have hP : va_P D cls (wL ad ca adM caM o cO p1.2.2 b2.2 p1.2.1) H := hP
  have hD : va_D A (wL ad ca adM caM o cO p1.2.2 b2.2 p1.2.1) := hD
  refine lv_istore hx hb d_law_432 hl (by decide) rfl (fun ls hl => ?_)
  have hl : lv_has ls 7 [(6, .int (b2.1)), (5, .int (p1.1)), (0, .ref b), (1, .ref (ad 0)), (2, .ref (adM 0)), (3, .ref o), (4, .int (nI i))] := hl
  refine lv_aload_n hx hb d_law_434 rfl (lv_at hl 4 rfl) ?_
  obtain ⟨b3, e1, h⟩ := bd_some h
  refine fr_i (pre := wF ad ca p1.2.2) (w := wM adM caM b2.2) (post := [(o, .inl (cO, (1, .inr (.inl p1.2.1))))]) (X.on (vk_l (vk_r X.2.2.2.2.2.2.2.1))) (fg_runV (As := []) (X.on (vk_l (vk_r X.2.2.2.2.2.2.2.1))) (m_Mod_thrown e1 _) (vp_mid (pre := wF ad ca p1.2.2) (w := wM adM caM b2.2) (post := [(o, .inl (cO, (1, .inr (.inl p1.2.1))))]) hP) (vd_mid (pre := wF ad ca p1.2.2) (w := wM adM caM b2.2) (post := [(o, .inl (cO, (1, .inr (.inl p1.2.1))))]) hD) kv_LawM_102 ⟨⟨Nat.le_of_ble_eq_true rfl, Nat.le_of_ble_eq_true rfl⟩, by omega, by omega⟩ 0 rfl rfl rfl hl.1 rfl (Nat.le_of_ble_eq_true rfl) d_law_435) hP hD hS (fun H locs hP hD hS => ?_)
  have hP : va_P D cls (wL ad ca adM caM o cO p1.2.2 b2.2 p1.2.1) H := hP
  have hD : va_D A (wL ad ca adM caM o cO p1.2.2 b2.2 p1.2.1) := hD
  refine lv_iload hx hb d_law_438 (lv_at hl 1 rfl) ?_
  refine lv_icmp_eq (tgt := 445) hx hb d_law_440 (by decide) (fun hc => ?_) (fun hc => ?_)
  · have h := if_t hc h
    refine lv_iload hx hb d_law_445 (lv_at hl 1 rfl) ?_
    refine lv_if_ne (tgt := 462) hx hb d_law_447 (by decide) (fun hc => ?_) (fun hc => ?_)
    · have h := if_f hc h
      refine lv_goto (tgt := 1529) hx hb d_law_462 (by decide) ?_
      cases h
      exact kk _ _ _ hP hD hS (lv_sub hl [2, 3, 4, 5, 6] rfl)
    · have h := if_t hc h
      refine lv_aload_n hx hb d_law_450 rfl (lv_at hl 5 rfl) ?_
      refine lv_iconst (v := 0) hx hb d_law_451 (by decide) ?_
      refine lw_lald X hP d_law_452 ?_
      refine lv_iload hx hb d_law_453 (lv_at hl 0 rfl) ?_
      refine lv_i2l (v := (b2.1).toInt64) hx hb d_law_455 rfl ?_
      refine W.lcmp hx hb d_law_456 ?_
      refine lv_if_eq (tgt := 462) hx hb d_law_457 (by decide) (fun hc => ?_) (fun hc => ?_)
      · have h := if_t hc h
        refine lv_goto (tgt := 1529) hx hb d_law_462 (by decide) ?_
        cases h
        exact kk _ _ _ hP hD hS (lv_sub hl [2, 3, 4, 5, 6] rfl)
      · have h := if_f hc h
        cases h
  · have h := if_f hc h
    cases h
set_option maxHeartbeats 4000000 in
set_option maxRecDepth 100000 in
theorem lc_5 {p : Program} {l : Launch} {e : Env} {s : State} {m : MethodId} {below : List Frame} {meth : Method} {c : Code} {D : va_G} {ad : Nat → Nat} {ca : Nat → ClassId} {adM : Nat → Nat} {caM : Nat → ClassId} {o : Nat} {cO : ClassId} {A : Nat → Prop} {FU b L i : Nat} {xs : Nat → Int32} {Q : State → Prop} {cells slots : Nat} (X : FX p s m meth c code 7 ret "FlashFilesLaw" D (tyL ca caM cO) A) (hZ : ZS A s) (hN : NC s) (htr : l.stackTraces = false) (hXs : va_X b L xs s s.heap) (hbl : b < s.heap.size) (hbA : ¬ A b) (hL : L ≤ 3072) (hi : i + 6 ≤ L) (hcc : cells + 1 ≤ room_1.cells) (hss : slots + 6 ≤ room_1.slots) {g gM : St} {f : Nat → Int64} {r : (Nat → Int64) × St × St} {H : Heap} {locs : List Loc} {ls : Array Slot} (hP : va_P D cls (wL ad ca adM caM o cO g gM f) H) (hD : va_D A (wL ad ca adM caM o cO g gM f)) (hS : va_S A s.heap H locs) (hl : lv_has ls 7 [(0, .ref b), (1, .ref (ad 0)), (2, .ref (adM 0)), (3, .ref o), (4, .int (nI i))]) (h : lawC5 FU xs i f g gM = some r)
    (kk : ∀ (H : Heap) (locs : List Loc) (ls : Array Slot), va_P D cls (wL ad ca adM caM o cO r.2.1 r.2.2 r.1) H → va_D A (wL ad ca adM caM o cO r.2.1 r.2.2 r.1) → va_S A s.heap H locs → lv_has ls 7 [(0, .ref b), (1, .ref (ad 0)), (2, .ref (adM 0)), (3, .ref o), (4, .int (nI i))] → W p l e room_1 s m #[Value.ref b] below meth c H locs (cells + 1) (slots + 6) Q (F0 m 1529 ls [])) : W p l e room_1 s m #[Value.ref b] below meth c H locs cells slots Q (F0 m 465 ls []) := by
  have hx := X.1
  have hb := X.2.1
  unfold lawC5 at h
  refine lv_aload_n hx hb d_law_465 rfl (lv_at hl 1 rfl) ?_
  refine lv_aload_n hx hb d_law_466 rfl (lv_at hl 0 rfl) ?_
  refine lv_iload hx hb d_law_467 (lv_at hl 4 rfl) ?_
  refine lv_iconst (v := 1) hx hb d_law_469 (by decide) ?_
  refine lv_iadd hx hb d_law_470 ?_
  refine sc_ld (j := i + 1) X hXs hbl hbA hS (ni_1 i) (by omega) hL d_law_471 ?_
  refine lv_aload_n hx hb d_law_472 rfl (lv_at hl 0 rfl) ?_
  refine lv_iload hx hb d_law_473 (lv_at hl 4 rfl) ?_
  refine lv_iconst (v := 2) hx hb d_law_475 (by decide) ?_
  refine lv_iadd hx hb d_law_476 ?_
  refine sc_ld (j := i + 2) X hXs hbl hbA hS (ni_2 i) (by omega) hL d_law_477 ?_
  refine lv_aload_n hx hb d_law_478 rfl (lv_at hl 0 rfl) ?_
  refine lv_iload hx hb d_law_479 (lv_at hl 4 rfl) ?_
  refine lv_iconst (v := 3) hx hb d_law_481 (by decide) ?_
  refine lv_iadd hx hb d_law_482 ?_
  refine sc_ld (j := i + 3) X hXs hbl hbA hS (ni_3 i) (by omega) hL d_law_483 ?_
  refine lv_aload_n hx hb d_law_484 rfl (lv_at hl 3 rfl) ?_
  obtain ⟨p1, e1, h⟩ := bd_some h
  refine hs_S (As := [.ref (ad 0), .int (xs (i + 1)), .int (xs (i + 2)), .int (xs (i + 3)), .ref o]) X (h_link e1) hZ hN htr hP hD hS kw_120 ⟨⟨Nat.le_of_ble_eq_true rfl, Nat.le_of_ble_eq_true rfl⟩, hcc, hss⟩ rfl hl.1 rfl (Nat.le_of_ble_eq_true rfl) d_law_485 (fun H locs hP hD hS => ?_)
  have hP : va_P D cls (wL ad ca adM caM o cO p1.2.2 gM p1.2.1) H := hP
  have hD : va_D A (wL ad ca adM caM o cO p1.2.2 gM p1.2.1) := hD
  refine lv_istore hx hb d_law_488 hl (by decide) rfl (fun ls hl => ?_)
  have hl : lv_has ls 7 [(5, .int (p1.1)), (0, .ref b), (1, .ref (ad 0)), (2, .ref (adM 0)), (3, .ref o), (4, .int (nI i))] := hl
  refine lv_aload_n hx hb d_law_490 rfl (lv_at hl 3 rfl) ?_
  refine lv_aload_n hx hb d_law_491 rfl (lv_at hl 1 rfl) ?_
  refine lv_iload hx hb d_law_492 (lv_at hl 5 rfl) ?_
  refine lv_iconst (v := 1) hx hb d_law_494 (by decide) ?_
  refine lv_iadd hx hb d_law_495 ?_
  refine sc_ld (j := i + 1) X hXs hbl hbA hS (ni_1 i) (by omega) hL d_law_496 ?_
  refine lv_aload_n hx hb d_law_497 rfl (lv_at hl 1 rfl) ?_
  refine lv_iload hx hb d_law_498 (lv_at hl 5 rfl) ?_
  refine lv_iconst (v := 2) hx hb d_law_500 (by decide) ?_
  refine lv_iadd hx hb d_law_501 ?_
  refine sc_ld (j := i + 2) X hXs hbl hbA hS (ni_2 i) (by omega) hL d_law_502 ?_
  refine lv_aload_n hx hb d_law_503 rfl (lv_at hl 1 rfl) ?_
  refine lv_iload hx hb d_law_504 (lv_at hl 5 rfl) ?_
  refine lv_iconst (v := 3) hx hb d_law_506 (by decide) ?_
  refine lv_iadd hx hb d_law_507 ?_
  refine sc_ld (j := i + 3) X hXs hbl hbA hS (ni_3 i) (by omega) hL d_law_508 ?_
  obtain ⟨b2, e1, h⟩ := bd_some h
  refine fr_i (pre := wF ad ca p1.2.2) (w := wM adM caM gM) (post := [(o, .inl (cO, (1, .inr (.inl p1.2.1))))]) (X.on (vk_l (vk_r X.2.2.2.2.2.2.2.1))) (fg_runV (As := [.int (xs (i + 1)), .int (xs (i + 2)), .int (xs (i + 3))]) (X.on (vk_l (vk_r X.2.2.2.2.2.2.2.1))) (m_Mod_link e1 _) (vp_mid (pre := wF ad ca p1.2.2) (w := wM adM caM gM) (post := [(o, .inl (cO, (1, .inr (.inl p1.2.1))))]) hP) (vd_mid (pre := wF ad ca p1.2.2) (w := wM adM caM gM) (post := [(o, .inl (cO, (1, .inr (.inl p1.2.1))))]) hD) kv_LawM_123 ⟨⟨Nat.le_of_ble_eq_true rfl, Nat.le_of_ble_eq_true rfl⟩, by omega, by omega⟩ 0 rfl rfl rfl hl.1 rfl (Nat.le_of_ble_eq_true rfl) d_law_509) hP hD hS (fun H locs hP hD hS => ?_)
  have hP : va_P D cls (wL ad ca adM caM o cO p1.2.2 b2.2 p1.2.1) H := hP
  have hD : va_D A (wL ad ca adM caM o cO p1.2.2 b2.2 p1.2.1) := hD
  refine lv_istore hx hb d_law_512 hl (by decide) rfl (fun ls hl => ?_)
  have hl : lv_has ls 7 [(6, .int (b2.1)), (5, .int (p1.1)), (0, .ref b), (1, .ref (ad 0)), (2, .ref (adM 0)), (3, .ref o), (4, .int (nI i))] := hl
  refine lv_aload_n hx hb d_law_514 rfl (lv_at hl 4 rfl) ?_
  obtain ⟨b3, e1, h⟩ := bd_some h
  refine fr_i (pre := wF ad ca p1.2.2) (w := wM adM caM b2.2) (post := [(o, .inl (cO, (1, .inr (.inl p1.2.1))))]) (X.on (vk_l (vk_r X.2.2.2.2.2.2.2.1))) (fg_runV (As := []) (X.on (vk_l (vk_r X.2.2.2.2.2.2.2.1))) (m_Mod_thrown e1 _) (vp_mid (pre := wF ad ca p1.2.2) (w := wM adM caM b2.2) (post := [(o, .inl (cO, (1, .inr (.inl p1.2.1))))]) hP) (vd_mid (pre := wF ad ca p1.2.2) (w := wM adM caM b2.2) (post := [(o, .inl (cO, (1, .inr (.inl p1.2.1))))]) hD) kv_LawM_102 ⟨⟨Nat.le_of_ble_eq_true rfl, Nat.le_of_ble_eq_true rfl⟩, by omega, by omega⟩ 0 rfl rfl rfl hl.1 rfl (Nat.le_of_ble_eq_true rfl) d_law_515) hP hD hS (fun H locs hP hD hS => ?_)
  have hP : va_P D cls (wL ad ca adM caM o cO p1.2.2 b2.2 p1.2.1) H := hP
  have hD : va_D A (wL ad ca adM caM o cO p1.2.2 b2.2 p1.2.1) := hD
  refine lv_iload hx hb d_law_518 (lv_at hl 1 rfl) ?_
  refine lv_icmp_eq (tgt := 525) hx hb d_law_520 (by decide) (fun hc => ?_) (fun hc => ?_)
  · have h := if_t hc h
    refine lv_iload hx hb d_law_525 (lv_at hl 1 rfl) ?_
    refine lv_if_ne (tgt := 542) hx hb d_law_527 (by decide) (fun hc => ?_) (fun hc => ?_)
    · have h := if_f hc h
      refine lv_goto (tgt := 1529) hx hb d_law_542 (by decide) ?_
      cases h
      exact kk _ _ _ hP hD hS (lv_sub hl [2, 3, 4, 5, 6] rfl)
    · have h := if_t hc h
      refine lv_aload_n hx hb d_law_530 rfl (lv_at hl 5 rfl) ?_
      refine lv_iconst (v := 0) hx hb d_law_531 (by decide) ?_
      refine lw_lald X hP d_law_532 ?_
      refine lv_iload hx hb d_law_533 (lv_at hl 0 rfl) ?_
      refine lv_i2l (v := (b2.1).toInt64) hx hb d_law_535 rfl ?_
      refine W.lcmp hx hb d_law_536 ?_
      refine lv_if_eq (tgt := 542) hx hb d_law_537 (by decide) (fun hc => ?_) (fun hc => ?_)
      · have h := if_t hc h
        refine lv_goto (tgt := 1529) hx hb d_law_542 (by decide) ?_
        cases h
        exact kk _ _ _ hP hD hS (lv_sub hl [2, 3, 4, 5, 6] rfl)
      · have h := if_f hc h
        cases h
  · have h := if_f hc h
    cases h
set_option maxHeartbeats 4000000 in
set_option maxRecDepth 100000 in
theorem lc_6 {p : Program} {l : Launch} {e : Env} {s : State} {m : MethodId} {below : List Frame} {meth : Method} {c : Code} {D : va_G} {ad : Nat → Nat} {ca : Nat → ClassId} {adM : Nat → Nat} {caM : Nat → ClassId} {o : Nat} {cO : ClassId} {A : Nat → Prop} {FU b L i : Nat} {xs : Nat → Int32} {Q : State → Prop} {cells slots : Nat} (X : FX p s m meth c code 7 ret "FlashFilesLaw" D (tyL ca caM cO) A) (hZ : ZS A s) (hN : NC s) (htr : l.stackTraces = false) (hXs : va_X b L xs s s.heap) (hbl : b < s.heap.size) (hbA : ¬ A b) (hL : L ≤ 3072) (hi : i + 6 ≤ L) (hcc : cells + 1 ≤ room_1.cells) (hss : slots + 6 ≤ room_1.slots) {g gM : St} {f : Nat → Int64} {r : (Nat → Int64) × St × St} {H : Heap} {locs : List Loc} {ls : Array Slot} (hP : va_P D cls (wL ad ca adM caM o cO g gM f) H) (hD : va_D A (wL ad ca adM caM o cO g gM f)) (hS : va_S A s.heap H locs) (hl : lv_has ls 7 [(0, .ref b), (1, .ref (ad 0)), (2, .ref (adM 0)), (3, .ref o), (4, .int (nI i))]) (h : lawC6 FU xs i f g gM = some r)
    (kk : ∀ (H : Heap) (locs : List Loc) (ls : Array Slot), va_P D cls (wL ad ca adM caM o cO r.2.1 r.2.2 r.1) H → va_D A (wL ad ca adM caM o cO r.2.1 r.2.2 r.1) → va_S A s.heap H locs → lv_has ls 7 [(0, .ref b), (1, .ref (ad 0)), (2, .ref (adM 0)), (3, .ref o), (4, .int (nI i))] → W p l e room_1 s m #[Value.ref b] below meth c H locs (cells + 1) (slots + 6) Q (F0 m 1529 ls [])) : W p l e room_1 s m #[Value.ref b] below meth c H locs cells slots Q (F0 m 545 ls []) := by
  have hx := X.1
  have hb := X.2.1
  unfold lawC6 at h
  refine lv_aload_n hx hb d_law_545 rfl (lv_at hl 1 rfl) ?_
  refine lv_aload_n hx hb d_law_546 rfl (lv_at hl 0 rfl) ?_
  refine lv_iload hx hb d_law_547 (lv_at hl 4 rfl) ?_
  refine lv_iconst (v := 1) hx hb d_law_549 (by decide) ?_
  refine lv_iadd hx hb d_law_550 ?_
  refine sc_ld (j := i + 1) X hXs hbl hbA hS (ni_1 i) (by omega) hL d_law_551 ?_
  refine lv_aload_n hx hb d_law_552 rfl (lv_at hl 0 rfl) ?_
  refine lv_iload hx hb d_law_553 (lv_at hl 4 rfl) ?_
  refine lv_iconst (v := 2) hx hb d_law_555 (by decide) ?_
  refine lv_iadd hx hb d_law_556 ?_
  refine sc_ld (j := i + 2) X hXs hbl hbA hS (ni_2 i) (by omega) hL d_law_557 ?_
  refine lv_aload_n hx hb d_law_558 rfl (lv_at hl 3 rfl) ?_
  obtain ⟨p1, e1, h⟩ := bd_some h
  refine hs_S (As := [.ref (ad 0), .int (xs (i + 1)), .int (xs (i + 2)), .ref o]) X (h_unlink e1) hZ hN htr hP hD hS kw_124 ⟨⟨Nat.le_of_ble_eq_true rfl, Nat.le_of_ble_eq_true rfl⟩, hcc, hss⟩ rfl hl.1 rfl (Nat.le_of_ble_eq_true rfl) d_law_559 (fun H locs hP hD hS => ?_)
  have hP : va_P D cls (wL ad ca adM caM o cO p1.2.2 gM p1.2.1) H := hP
  have hD : va_D A (wL ad ca adM caM o cO p1.2.2 gM p1.2.1) := hD
  refine lv_istore hx hb d_law_562 hl (by decide) rfl (fun ls hl => ?_)
  have hl : lv_has ls 7 [(5, .int (p1.1)), (0, .ref b), (1, .ref (ad 0)), (2, .ref (adM 0)), (3, .ref o), (4, .int (nI i))] := hl
  refine lv_aload_n hx hb d_law_564 rfl (lv_at hl 3 rfl) ?_
  refine lv_aload_n hx hb d_law_565 rfl (lv_at hl 1 rfl) ?_
  refine lv_iload hx hb d_law_566 (lv_at hl 5 rfl) ?_
  refine lv_iconst (v := 1) hx hb d_law_568 (by decide) ?_
  refine lv_iadd hx hb d_law_569 ?_
  refine sc_ld (j := i + 1) X hXs hbl hbA hS (ni_1 i) (by omega) hL d_law_570 ?_
  refine lv_aload_n hx hb d_law_571 rfl (lv_at hl 1 rfl) ?_
  refine lv_iload hx hb d_law_572 (lv_at hl 5 rfl) ?_
  refine lv_iconst (v := 2) hx hb d_law_574 (by decide) ?_
  refine lv_iadd hx hb d_law_575 ?_
  refine sc_ld (j := i + 2) X hXs hbl hbA hS (ni_2 i) (by omega) hL d_law_576 ?_
  obtain ⟨b2, e1, h⟩ := bd_some h
  refine fr_i (pre := wF ad ca p1.2.2) (w := wM adM caM gM) (post := [(o, .inl (cO, (1, .inr (.inl p1.2.1))))]) (X.on (vk_l (vk_r X.2.2.2.2.2.2.2.1))) (fg_runV (As := [.int (xs (i + 1)), .int (xs (i + 2))]) (X.on (vk_l (vk_r X.2.2.2.2.2.2.2.1))) (m_Mod_unlink e1 _) (vp_mid (pre := wF ad ca p1.2.2) (w := wM adM caM gM) (post := [(o, .inl (cO, (1, .inr (.inl p1.2.1))))]) hP) (vd_mid (pre := wF ad ca p1.2.2) (w := wM adM caM gM) (post := [(o, .inl (cO, (1, .inr (.inl p1.2.1))))]) hD) kv_LawM_126 ⟨⟨Nat.le_of_ble_eq_true rfl, Nat.le_of_ble_eq_true rfl⟩, by omega, by omega⟩ 0 rfl rfl rfl hl.1 rfl (Nat.le_of_ble_eq_true rfl) d_law_577) hP hD hS (fun H locs hP hD hS => ?_)
  have hP : va_P D cls (wL ad ca adM caM o cO p1.2.2 b2.2 p1.2.1) H := hP
  have hD : va_D A (wL ad ca adM caM o cO p1.2.2 b2.2 p1.2.1) := hD
  refine lv_istore hx hb d_law_580 hl (by decide) rfl (fun ls hl => ?_)
  have hl : lv_has ls 7 [(6, .int (b2.1)), (5, .int (p1.1)), (0, .ref b), (1, .ref (ad 0)), (2, .ref (adM 0)), (3, .ref o), (4, .int (nI i))] := hl
  refine lv_aload_n hx hb d_law_582 rfl (lv_at hl 4 rfl) ?_
  obtain ⟨b3, e1, h⟩ := bd_some h
  refine fr_i (pre := wF ad ca p1.2.2) (w := wM adM caM b2.2) (post := [(o, .inl (cO, (1, .inr (.inl p1.2.1))))]) (X.on (vk_l (vk_r X.2.2.2.2.2.2.2.1))) (fg_runV (As := []) (X.on (vk_l (vk_r X.2.2.2.2.2.2.2.1))) (m_Mod_thrown e1 _) (vp_mid (pre := wF ad ca p1.2.2) (w := wM adM caM b2.2) (post := [(o, .inl (cO, (1, .inr (.inl p1.2.1))))]) hP) (vd_mid (pre := wF ad ca p1.2.2) (w := wM adM caM b2.2) (post := [(o, .inl (cO, (1, .inr (.inl p1.2.1))))]) hD) kv_LawM_102 ⟨⟨Nat.le_of_ble_eq_true rfl, Nat.le_of_ble_eq_true rfl⟩, by omega, by omega⟩ 0 rfl rfl rfl hl.1 rfl (Nat.le_of_ble_eq_true rfl) d_law_583) hP hD hS (fun H locs hP hD hS => ?_)
  have hP : va_P D cls (wL ad ca adM caM o cO p1.2.2 b2.2 p1.2.1) H := hP
  have hD : va_D A (wL ad ca adM caM o cO p1.2.2 b2.2 p1.2.1) := hD
  refine lv_iload hx hb d_law_586 (lv_at hl 1 rfl) ?_
  refine lv_icmp_eq (tgt := 593) hx hb d_law_588 (by decide) (fun hc => ?_) (fun hc => ?_)
  · have h := if_t hc h
    refine lv_iload hx hb d_law_593 (lv_at hl 1 rfl) ?_
    refine lv_if_ne (tgt := 610) hx hb d_law_595 (by decide) (fun hc => ?_) (fun hc => ?_)
    · have h := if_f hc h
      refine lv_goto (tgt := 1529) hx hb d_law_610 (by decide) ?_
      cases h
      exact kk _ _ _ hP hD hS (lv_sub hl [2, 3, 4, 5, 6] rfl)
    · have h := if_t hc h
      refine lv_aload_n hx hb d_law_598 rfl (lv_at hl 5 rfl) ?_
      refine lv_iconst (v := 0) hx hb d_law_599 (by decide) ?_
      refine lw_lald X hP d_law_600 ?_
      refine lv_iload hx hb d_law_601 (lv_at hl 0 rfl) ?_
      refine lv_i2l (v := (b2.1).toInt64) hx hb d_law_603 rfl ?_
      refine W.lcmp hx hb d_law_604 ?_
      refine lv_if_eq (tgt := 610) hx hb d_law_605 (by decide) (fun hc => ?_) (fun hc => ?_)
      · have h := if_t hc h
        refine lv_goto (tgt := 1529) hx hb d_law_610 (by decide) ?_
        cases h
        exact kk _ _ _ hP hD hS (lv_sub hl [2, 3, 4, 5, 6] rfl)
      · have h := if_f hc h
        cases h
  · have h := if_f hc h
    cases h
set_option maxHeartbeats 4000000 in
set_option maxRecDepth 100000 in
theorem lc_7 {p : Program} {l : Launch} {e : Env} {s : State} {m : MethodId} {below : List Frame} {meth : Method} {c : Code} {D : va_G} {ad : Nat → Nat} {ca : Nat → ClassId} {adM : Nat → Nat} {caM : Nat → ClassId} {o : Nat} {cO : ClassId} {A : Nat → Prop} {FU b L i : Nat} {xs : Nat → Int32} {Q : State → Prop} {cells slots : Nat} (X : FX p s m meth c code 7 ret "FlashFilesLaw" D (tyL ca caM cO) A) (hZ : ZS A s) (hN : NC s) (htr : l.stackTraces = false) (hXs : va_X b L xs s s.heap) (hbl : b < s.heap.size) (hbA : ¬ A b) (hL : L ≤ 3072) (hi : i + 6 ≤ L) (hcc : cells + 1 ≤ room_1.cells) (hss : slots + 6 ≤ room_1.slots) {g gM : St} {f : Nat → Int64} {r : (Nat → Int64) × St × St} {H : Heap} {locs : List Loc} {ls : Array Slot} (hP : va_P D cls (wL ad ca adM caM o cO g gM f) H) (hD : va_D A (wL ad ca adM caM o cO g gM f)) (hS : va_S A s.heap H locs) (hl : lv_has ls 7 [(0, .ref b), (1, .ref (ad 0)), (2, .ref (adM 0)), (3, .ref o), (4, .int (nI i))]) (h : lawC7 FU xs i f g gM = some r)
    (kk : ∀ (H : Heap) (locs : List Loc) (ls : Array Slot), va_P D cls (wL ad ca adM caM o cO r.2.1 r.2.2 r.1) H → va_D A (wL ad ca adM caM o cO r.2.1 r.2.2 r.1) → va_S A s.heap H locs → lv_has ls 7 [(0, .ref b), (1, .ref (ad 0)), (2, .ref (adM 0)), (3, .ref o), (4, .int (nI i))] → W p l e room_1 s m #[Value.ref b] below meth c H locs (cells + 1) (slots + 6) Q (F0 m 1529 ls [])) : W p l e room_1 s m #[Value.ref b] below meth c H locs cells slots Q (F0 m 613 ls []) := by
  have hx := X.1
  have hb := X.2.1
  unfold lawC7 at h
  refine lv_aload_n hx hb d_law_613 rfl (lv_at hl 1 rfl) ?_
  refine lv_aload_n hx hb d_law_614 rfl (lv_at hl 0 rfl) ?_
  refine lv_iload hx hb d_law_615 (lv_at hl 4 rfl) ?_
  refine lv_iconst (v := 1) hx hb d_law_617 (by decide) ?_
  refine lv_iadd hx hb d_law_618 ?_
  refine sc_ld (j := i + 1) X hXs hbl hbA hS (ni_1 i) (by omega) hL d_law_619 ?_
  refine lv_aload_n hx hb d_law_620 rfl (lv_at hl 0 rfl) ?_
  refine lv_iload hx hb d_law_621 (lv_at hl 4 rfl) ?_
  refine lv_iconst (v := 2) hx hb d_law_623 (by decide) ?_
  refine lv_iadd hx hb d_law_624 ?_
  refine sc_ld (j := i + 2) X hXs hbl hbA hS (ni_2 i) (by omega) hL d_law_625 ?_
  obtain ⟨p1, e1, h⟩ := bd_some h
  refine hs_S (As := [.ref (ad 0), .int (xs (i + 1)), .int (xs (i + 2))]) X (h_removeDirectory e1) hZ hN htr hP hD hS kw_127 ⟨⟨Nat.le_of_ble_eq_true rfl, Nat.le_of_ble_eq_true rfl⟩, hcc, hss⟩ rfl hl.1 rfl (Nat.le_of_ble_eq_true rfl) d_law_626 (fun H locs hP hD hS => ?_)
  have hP : va_P D cls (wL ad ca adM caM o cO p1.2.2 gM p1.2.1) H := hP
  have hD : va_D A (wL ad ca adM caM o cO p1.2.2 gM p1.2.1) := hD
  refine lv_istore hx hb d_law_629 hl (by decide) rfl (fun ls hl => ?_)
  have hl : lv_has ls 7 [(5, .int (p1.1)), (0, .ref b), (1, .ref (ad 0)), (2, .ref (adM 0)), (3, .ref o), (4, .int (nI i))] := hl
  refine lv_aload_n hx hb d_law_631 rfl (lv_at hl 3 rfl) ?_
  refine lv_aload_n hx hb d_law_632 rfl (lv_at hl 1 rfl) ?_
  refine lv_iload hx hb d_law_633 (lv_at hl 5 rfl) ?_
  refine lv_iconst (v := 1) hx hb d_law_635 (by decide) ?_
  refine lv_iadd hx hb d_law_636 ?_
  refine sc_ld (j := i + 1) X hXs hbl hbA hS (ni_1 i) (by omega) hL d_law_637 ?_
  refine lv_aload_n hx hb d_law_638 rfl (lv_at hl 1 rfl) ?_
  refine lv_iload hx hb d_law_639 (lv_at hl 5 rfl) ?_
  refine lv_iconst (v := 2) hx hb d_law_641 (by decide) ?_
  refine lv_iadd hx hb d_law_642 ?_
  refine sc_ld (j := i + 2) X hXs hbl hbA hS (ni_2 i) (by omega) hL d_law_643 ?_
  obtain ⟨b2, e1, h⟩ := bd_some h
  refine fr_v (pre := wF ad ca p1.2.2) (w := wM adM caM gM) (post := [(o, .inl (cO, (1, .inr (.inl p1.2.1))))]) (X.on (vk_l (vk_r X.2.2.2.2.2.2.2.1))) (fg_runV (As := [.int (xs (i + 1)), .int (xs (i + 2))]) (X.on (vk_l (vk_r X.2.2.2.2.2.2.2.1))) (m_Mod_removeDirectory e1 _) (vp_mid (pre := wF ad ca p1.2.2) (w := wM adM caM gM) (post := [(o, .inl (cO, (1, .inr (.inl p1.2.1))))]) hP) (vd_mid (pre := wF ad ca p1.2.2) (w := wM adM caM gM) (post := [(o, .inl (cO, (1, .inr (.inl p1.2.1))))]) hD) kv_LawM_129 ⟨⟨Nat.le_of_ble_eq_true rfl, Nat.le_of_ble_eq_true rfl⟩, by omega, by omega⟩ 0 rfl rfl rfl hl.1 rfl (Nat.le_of_ble_eq_true rfl) d_law_644) hP hD hS (fun H locs hP hD hS => ?_)
  have hP : va_P D cls (wL ad ca adM caM o cO p1.2.2 b2 p1.2.1) H := hP
  have hD : va_D A (wL ad ca adM caM o cO p1.2.2 b2 p1.2.1) := hD
  refine lv_aload_n hx hb d_law_647 rfl (lv_at hl 3 rfl) ?_
  obtain ⟨b3, e1, h⟩ := bd_some h
  refine fr_i (pre := wF ad ca p1.2.2) (w := wM adM caM b2) (post := [(o, .inl (cO, (1, .inr (.inl p1.2.1))))]) (X.on (vk_l (vk_r X.2.2.2.2.2.2.2.1))) (fg_runV (As := []) (X.on (vk_l (vk_r X.2.2.2.2.2.2.2.1))) (m_Mod_thrown e1 _) (vp_mid (pre := wF ad ca p1.2.2) (w := wM adM caM b2) (post := [(o, .inl (cO, (1, .inr (.inl p1.2.1))))]) hP) (vd_mid (pre := wF ad ca p1.2.2) (w := wM adM caM b2) (post := [(o, .inl (cO, (1, .inr (.inl p1.2.1))))]) hD) kv_LawM_102 ⟨⟨Nat.le_of_ble_eq_true rfl, Nat.le_of_ble_eq_true rfl⟩, by omega, by omega⟩ 0 rfl rfl rfl hl.1 rfl (Nat.le_of_ble_eq_true rfl) d_law_648) hP hD hS (fun H locs hP hD hS => ?_)
  have hP : va_P D cls (wL ad ca adM caM o cO p1.2.2 b2 p1.2.1) H := hP
  have hD : va_D A (wL ad ca adM caM o cO p1.2.2 b2 p1.2.1) := hD
  refine lv_iload hx hb d_law_651 (lv_at hl 0 rfl) ?_
  refine lv_icmp_eq (tgt := 658) hx hb d_law_653 (by decide) (fun hc => ?_) (fun hc => ?_)
  · have h := if_t hc h
    refine lv_goto (tgt := 1529) hx hb d_law_658 (by decide) ?_
    cases h
    exact kk _ _ _ hP hD hS (lv_sub hl [1, 2, 3, 4, 5] rfl)
  · have h := if_f hc h
    cases h
set_option maxHeartbeats 4000000 in
set_option maxRecDepth 100000 in
theorem lc_8 {p : Program} {l : Launch} {e : Env} {s : State} {m : MethodId} {below : List Frame} {meth : Method} {c : Code} {D : va_G} {ad : Nat → Nat} {ca : Nat → ClassId} {adM : Nat → Nat} {caM : Nat → ClassId} {o : Nat} {cO : ClassId} {A : Nat → Prop} {FU b L i : Nat} {xs : Nat → Int32} {Q : State → Prop} {cells slots : Nat} (X : FX p s m meth c code 7 ret "FlashFilesLaw" D (tyL ca caM cO) A) (hZ : ZS A s) (hN : NC s) (htr : l.stackTraces = false) (hXs : va_X b L xs s s.heap) (hbl : b < s.heap.size) (hbA : ¬ A b) (hL : L ≤ 3072) (hi : i + 6 ≤ L) (hcc : cells + 1 ≤ room_1.cells) (hss : slots + 6 ≤ room_1.slots) {g gM : St} {f : Nat → Int64} {r : (Nat → Int64) × St × St} {H : Heap} {locs : List Loc} {ls : Array Slot} (hP : va_P D cls (wL ad ca adM caM o cO g gM f) H) (hD : va_D A (wL ad ca adM caM o cO g gM f)) (hS : va_S A s.heap H locs) (hl : lv_has ls 7 [(0, .ref b), (1, .ref (ad 0)), (2, .ref (adM 0)), (3, .ref o), (4, .int (nI i))]) (h : lawC8 FU xs i f g gM = some r)
    (kk : ∀ (H : Heap) (locs : List Loc) (ls : Array Slot), va_P D cls (wL ad ca adM caM o cO r.2.1 r.2.2 r.1) H → va_D A (wL ad ca adM caM o cO r.2.1 r.2.2 r.1) → va_S A s.heap H locs → lv_has ls 7 [(0, .ref b), (1, .ref (ad 0)), (2, .ref (adM 0)), (3, .ref o), (4, .int (nI i))] → W p l e room_1 s m #[Value.ref b] below meth c H locs (cells + 1) (slots + 6) Q (F0 m 1529 ls [])) : W p l e room_1 s m #[Value.ref b] below meth c H locs cells slots Q (F0 m 661 ls []) := by
  have hx := X.1
  have hb := X.2.1
  unfold lawC8 at h
  refine lv_aload_n hx hb d_law_661 rfl (lv_at hl 1 rfl) ?_
  refine lv_aload_n hx hb d_law_662 rfl (lv_at hl 0 rfl) ?_
  refine lv_iload hx hb d_law_663 (lv_at hl 4 rfl) ?_
  refine lv_iconst (v := 1) hx hb d_law_665 (by decide) ?_
  refine lv_iadd hx hb d_law_666 ?_
  refine sc_ld (j := i + 1) X hXs hbl hbA hS (ni_1 i) (by omega) hL d_law_667 ?_
  refine lv_aload_n hx hb d_law_668 rfl (lv_at hl 0 rfl) ?_
  refine lv_iload hx hb d_law_669 (lv_at hl 4 rfl) ?_
  refine lv_iconst (v := 2) hx hb d_law_671 (by decide) ?_
  refine lv_iadd hx hb d_law_672 ?_
  refine sc_ld (j := i + 2) X hXs hbl hbA hS (ni_2 i) (by omega) hL d_law_673 ?_
  refine lv_aload_n hx hb d_law_674 rfl (lv_at hl 0 rfl) ?_
  refine lv_iload hx hb d_law_675 (lv_at hl 4 rfl) ?_
  refine lv_iconst (v := 3) hx hb d_law_677 (by decide) ?_
  refine lv_iadd hx hb d_law_678 ?_
  refine sc_ld (j := i + 3) X hXs hbl hbA hS (ni_3 i) (by omega) hL d_law_679 ?_
  refine lv_aload_n hx hb d_law_680 rfl (lv_at hl 0 rfl) ?_
  refine lv_iload hx hb d_law_681 (lv_at hl 4 rfl) ?_
  refine lv_iconst (v := 4) hx hb d_law_683 (by decide) ?_
  refine lv_iadd hx hb d_law_684 ?_
  refine sc_ld (j := i + 4) X hXs hbl hbA hS (ni_4 i) (by omega) hL d_law_685 ?_
  obtain ⟨p1, e1, h⟩ := bd_some h
  refine hs_S (As := [.ref (ad 0), .int (xs (i + 1)), .int (xs (i + 2)), .int (xs (i + 3)), .int (xs (i + 4))]) X (h_rename e1) hZ hN htr hP hD hS kw_130 ⟨⟨Nat.le_of_ble_eq_true rfl, Nat.le_of_ble_eq_true rfl⟩, hcc, hss⟩ rfl hl.1 rfl (Nat.le_of_ble_eq_true rfl) d_law_686 (fun H locs hP hD hS => ?_)
  have hP : va_P D cls (wL ad ca adM caM o cO p1.2.2 gM p1.2.1) H := hP
  have hD : va_D A (wL ad ca adM caM o cO p1.2.2 gM p1.2.1) := hD
  refine lv_istore hx hb d_law_689 hl (by decide) rfl (fun ls hl => ?_)
  have hl : lv_has ls 7 [(5, .int (p1.1)), (0, .ref b), (1, .ref (ad 0)), (2, .ref (adM 0)), (3, .ref o), (4, .int (nI i))] := hl
  refine lv_aload_n hx hb d_law_691 rfl (lv_at hl 3 rfl) ?_
  refine lv_aload_n hx hb d_law_692 rfl (lv_at hl 1 rfl) ?_
  refine lv_iload hx hb d_law_693 (lv_at hl 5 rfl) ?_
  refine lv_iconst (v := 1) hx hb d_law_695 (by decide) ?_
  refine lv_iadd hx hb d_law_696 ?_
  refine sc_ld (j := i + 1) X hXs hbl hbA hS (ni_1 i) (by omega) hL d_law_697 ?_
  refine lv_aload_n hx hb d_law_698 rfl (lv_at hl 1 rfl) ?_
  refine lv_iload hx hb d_law_699 (lv_at hl 5 rfl) ?_
  refine lv_iconst (v := 2) hx hb d_law_701 (by decide) ?_
  refine lv_iadd hx hb d_law_702 ?_
  refine sc_ld (j := i + 2) X hXs hbl hbA hS (ni_2 i) (by omega) hL d_law_703 ?_
  refine lv_aload_n hx hb d_law_704 rfl (lv_at hl 1 rfl) ?_
  refine lv_iload hx hb d_law_705 (lv_at hl 5 rfl) ?_
  refine lv_iconst (v := 3) hx hb d_law_707 (by decide) ?_
  refine lv_iadd hx hb d_law_708 ?_
  refine sc_ld (j := i + 3) X hXs hbl hbA hS (ni_3 i) (by omega) hL d_law_709 ?_
  refine lv_aload_n hx hb d_law_710 rfl (lv_at hl 1 rfl) ?_
  refine lv_iload hx hb d_law_711 (lv_at hl 5 rfl) ?_
  refine lv_iconst (v := 4) hx hb d_law_713 (by decide) ?_
  refine lv_iadd hx hb d_law_714 ?_
  refine sc_ld (j := i + 4) X hXs hbl hbA hS (ni_4 i) (by omega) hL d_law_715 ?_
  obtain ⟨b2, e1, h⟩ := bd_some h
  refine fr_v (pre := wF ad ca p1.2.2) (w := wM adM caM gM) (post := [(o, .inl (cO, (1, .inr (.inl p1.2.1))))]) (X.on (vk_l (vk_r X.2.2.2.2.2.2.2.1))) (fg_runV (As := [.int (xs (i + 1)), .int (xs (i + 2)), .int (xs (i + 3)), .int (xs (i + 4))]) (X.on (vk_l (vk_r X.2.2.2.2.2.2.2.1))) (m_Mod_rename e1 _) (vp_mid (pre := wF ad ca p1.2.2) (w := wM adM caM gM) (post := [(o, .inl (cO, (1, .inr (.inl p1.2.1))))]) hP) (vd_mid (pre := wF ad ca p1.2.2) (w := wM adM caM gM) (post := [(o, .inl (cO, (1, .inr (.inl p1.2.1))))]) hD) kv_LawM_133 ⟨⟨Nat.le_of_ble_eq_true rfl, Nat.le_of_ble_eq_true rfl⟩, by omega, by omega⟩ 0 rfl rfl rfl hl.1 rfl (Nat.le_of_ble_eq_true rfl) d_law_716) hP hD hS (fun H locs hP hD hS => ?_)
  have hP : va_P D cls (wL ad ca adM caM o cO p1.2.2 b2 p1.2.1) H := hP
  have hD : va_D A (wL ad ca adM caM o cO p1.2.2 b2 p1.2.1) := hD
  refine lv_aload_n hx hb d_law_719 rfl (lv_at hl 3 rfl) ?_
  obtain ⟨b3, e1, h⟩ := bd_some h
  refine fr_i (pre := wF ad ca p1.2.2) (w := wM adM caM b2) (post := [(o, .inl (cO, (1, .inr (.inl p1.2.1))))]) (X.on (vk_l (vk_r X.2.2.2.2.2.2.2.1))) (fg_runV (As := []) (X.on (vk_l (vk_r X.2.2.2.2.2.2.2.1))) (m_Mod_thrown e1 _) (vp_mid (pre := wF ad ca p1.2.2) (w := wM adM caM b2) (post := [(o, .inl (cO, (1, .inr (.inl p1.2.1))))]) hP) (vd_mid (pre := wF ad ca p1.2.2) (w := wM adM caM b2) (post := [(o, .inl (cO, (1, .inr (.inl p1.2.1))))]) hD) kv_LawM_102 ⟨⟨Nat.le_of_ble_eq_true rfl, Nat.le_of_ble_eq_true rfl⟩, by omega, by omega⟩ 0 rfl rfl rfl hl.1 rfl (Nat.le_of_ble_eq_true rfl) d_law_720) hP hD hS (fun H locs hP hD hS => ?_)
  have hP : va_P D cls (wL ad ca adM caM o cO p1.2.2 b2 p1.2.1) H := hP
  have hD : va_D A (wL ad ca adM caM o cO p1.2.2 b2 p1.2.1) := hD
  refine lv_iload hx hb d_law_723 (lv_at hl 0 rfl) ?_
  refine lv_icmp_eq (tgt := 730) hx hb d_law_725 (by decide) (fun hc => ?_) (fun hc => ?_)
  · have h := if_t hc h
    refine lv_goto (tgt := 1529) hx hb d_law_730 (by decide) ?_
    cases h
    exact kk _ _ _ hP hD hS (lv_sub hl [1, 2, 3, 4, 5] rfl)
  · have h := if_f hc h
    cases h
set_option maxHeartbeats 4000000 in
set_option maxRecDepth 100000 in
theorem lc_9 {p : Program} {l : Launch} {e : Env} {s : State} {m : MethodId} {below : List Frame} {meth : Method} {c : Code} {D : va_G} {ad : Nat → Nat} {ca : Nat → ClassId} {adM : Nat → Nat} {caM : Nat → ClassId} {o : Nat} {cO : ClassId} {A : Nat → Prop} {FU b L i : Nat} {xs : Nat → Int32} {Q : State → Prop} {cells slots : Nat} (X : FX p s m meth c code 7 ret "FlashFilesLaw" D (tyL ca caM cO) A) (hZ : ZS A s) (hN : NC s) (htr : l.stackTraces = false) (hXs : va_X b L xs s s.heap) (hbl : b < s.heap.size) (hbA : ¬ A b) (hL : L ≤ 3072) (hi : i + 6 ≤ L) (hcc : cells + 1 ≤ room_1.cells) (hss : slots + 6 ≤ room_1.slots) {g gM : St} {f : Nat → Int64} {r : (Nat → Int64) × St × St} {H : Heap} {locs : List Loc} {ls : Array Slot} (hP : va_P D cls (wL ad ca adM caM o cO g gM f) H) (hD : va_D A (wL ad ca adM caM o cO g gM f)) (hS : va_S A s.heap H locs) (hl : lv_has ls 7 [(0, .ref b), (1, .ref (ad 0)), (2, .ref (adM 0)), (3, .ref o), (4, .int (nI i))]) (h : lawC9 FU xs i f g gM = some r)
    (kk : ∀ (H : Heap) (locs : List Loc) (ls : Array Slot), va_P D cls (wL ad ca adM caM o cO r.2.1 r.2.2 r.1) H → va_D A (wL ad ca adM caM o cO r.2.1 r.2.2 r.1) → va_S A s.heap H locs → lv_has ls 7 [(0, .ref b), (1, .ref (ad 0)), (2, .ref (adM 0)), (3, .ref o), (4, .int (nI i))] → W p l e room_1 s m #[Value.ref b] below meth c H locs (cells + 1) (slots + 6) Q (F0 m 1529 ls [])) : W p l e room_1 s m #[Value.ref b] below meth c H locs cells slots Q (F0 m 733 ls []) := by
  have hx := X.1
  have hb := X.2.1
  unfold lawC9 at h
  refine lv_aload_n hx hb d_law_733 rfl (lv_at hl 1 rfl) ?_
  refine lv_aload_n hx hb d_law_734 rfl (lv_at hl 0 rfl) ?_
  refine lv_iload hx hb d_law_735 (lv_at hl 4 rfl) ?_
  refine lv_iconst (v := 1) hx hb d_law_737 (by decide) ?_
  refine lv_iadd hx hb d_law_738 ?_
  refine sc_ld (j := i + 1) X hXs hbl hbA hS (ni_1 i) (by omega) hL d_law_739 ?_
  refine lv_aload_n hx hb d_law_740 rfl (lv_at hl 0 rfl) ?_
  refine lv_iload hx hb d_law_741 (lv_at hl 4 rfl) ?_
  refine lv_iconst (v := 2) hx hb d_law_743 (by decide) ?_
  refine lv_iadd hx hb d_law_744 ?_
  refine sc_ld (j := i + 2) X hXs hbl hbA hS (ni_2 i) (by omega) hL d_law_745 ?_
  refine lv_aload_n hx hb d_law_746 rfl (lv_at hl 3 rfl) ?_
  obtain ⟨p1, e1, h⟩ := bd_some h
  refine hs_S (As := [.ref (ad 0), .int (xs (i + 1)), .int (xs (i + 2)), .ref o]) X (h_find e1) hZ hN htr hP hD hS kw_134 ⟨⟨Nat.le_of_ble_eq_true rfl, Nat.le_of_ble_eq_true rfl⟩, hcc, hss⟩ rfl hl.1 rfl (Nat.le_of_ble_eq_true rfl) d_law_747 (fun H locs hP hD hS => ?_)
  have hP : va_P D cls (wL ad ca adM caM o cO p1.2.2 gM p1.2.1) H := hP
  have hD : va_D A (wL ad ca adM caM o cO p1.2.2 gM p1.2.1) := hD
  refine lv_istore hx hb d_law_750 hl (by decide) rfl (fun ls hl => ?_)
  have hl : lv_has ls 7 [(5, .int (p1.1)), (0, .ref b), (1, .ref (ad 0)), (2, .ref (adM 0)), (3, .ref o), (4, .int (nI i))] := hl
  refine lv_aload_n hx hb d_law_752 rfl (lv_at hl 3 rfl) ?_
  refine lv_aload_n hx hb d_law_753 rfl (lv_at hl 1 rfl) ?_
  refine lv_iload hx hb d_law_754 (lv_at hl 5 rfl) ?_
  refine lv_iconst (v := 1) hx hb d_law_756 (by decide) ?_
  refine lv_iadd hx hb d_law_757 ?_
  refine sc_ld (j := i + 1) X hXs hbl hbA hS (ni_1 i) (by omega) hL d_law_758 ?_
  refine lv_aload_n hx hb d_law_759 rfl (lv_at hl 1 rfl) ?_
  refine lv_iload hx hb d_law_760 (lv_at hl 5 rfl) ?_
  refine lv_iconst (v := 2) hx hb d_law_762 (by decide) ?_
  refine lv_iadd hx hb d_law_763 ?_
  refine sc_ld (j := i + 2) X hXs hbl hbA hS (ni_2 i) (by omega) hL d_law_764 ?_
  obtain ⟨b2, e1, h⟩ := bd_some h
  refine fr_i (pre := wF ad ca p1.2.2) (w := wM adM caM gM) (post := [(o, .inl (cO, (1, .inr (.inl p1.2.1))))]) (X.on (vk_l (vk_r X.2.2.2.2.2.2.2.1))) (fg_runV (As := [.int (xs (i + 1)), .int (xs (i + 2))]) (X.on (vk_l (vk_r X.2.2.2.2.2.2.2.1))) (m_Mod_find e1 _) (vp_mid (pre := wF ad ca p1.2.2) (w := wM adM caM gM) (post := [(o, .inl (cO, (1, .inr (.inl p1.2.1))))]) hP) (vd_mid (pre := wF ad ca p1.2.2) (w := wM adM caM gM) (post := [(o, .inl (cO, (1, .inr (.inl p1.2.1))))]) hD) kv_LawM_136 ⟨⟨Nat.le_of_ble_eq_true rfl, Nat.le_of_ble_eq_true rfl⟩, by omega, by omega⟩ 0 rfl rfl rfl hl.1 rfl (Nat.le_of_ble_eq_true rfl) d_law_765) hP hD hS (fun H locs hP hD hS => ?_)
  have hP : va_P D cls (wL ad ca adM caM o cO p1.2.2 b2.2 p1.2.1) H := hP
  have hD : va_D A (wL ad ca adM caM o cO p1.2.2 b2.2 p1.2.1) := hD
  refine lv_istore hx hb d_law_768 hl (by decide) rfl (fun ls hl => ?_)
  have hl : lv_has ls 7 [(6, .int (b2.1)), (5, .int (p1.1)), (0, .ref b), (1, .ref (ad 0)), (2, .ref (adM 0)), (3, .ref o), (4, .int (nI i))] := hl
  refine lv_aload_n hx hb d_law_770 rfl (lv_at hl 4 rfl) ?_
  obtain ⟨b3, e1, h⟩ := bd_some h
  refine fr_i (pre := wF ad ca p1.2.2) (w := wM adM caM b2.2) (post := [(o, .inl (cO, (1, .inr (.inl p1.2.1))))]) (X.on (vk_l (vk_r X.2.2.2.2.2.2.2.1))) (fg_runV (As := []) (X.on (vk_l (vk_r X.2.2.2.2.2.2.2.1))) (m_Mod_thrown e1 _) (vp_mid (pre := wF ad ca p1.2.2) (w := wM adM caM b2.2) (post := [(o, .inl (cO, (1, .inr (.inl p1.2.1))))]) hP) (vd_mid (pre := wF ad ca p1.2.2) (w := wM adM caM b2.2) (post := [(o, .inl (cO, (1, .inr (.inl p1.2.1))))]) hD) kv_LawM_102 ⟨⟨Nat.le_of_ble_eq_true rfl, Nat.le_of_ble_eq_true rfl⟩, by omega, by omega⟩ 0 rfl rfl rfl hl.1 rfl (Nat.le_of_ble_eq_true rfl) d_law_771) hP hD hS (fun H locs hP hD hS => ?_)
  have hP : va_P D cls (wL ad ca adM caM o cO p1.2.2 b2.2 p1.2.1) H := hP
  have hD : va_D A (wL ad ca adM caM o cO p1.2.2 b2.2 p1.2.1) := hD
  refine lv_iload hx hb d_law_774 (lv_at hl 1 rfl) ?_
  refine lv_icmp_eq (tgt := 781) hx hb d_law_776 (by decide) (fun hc => ?_) (fun hc => ?_)
  · have h := if_t hc h
    refine lv_iload hx hb d_law_781 (lv_at hl 1 rfl) ?_
    refine lv_if_ne (tgt := 798) hx hb d_law_783 (by decide) (fun hc => ?_) (fun hc => ?_)
    · have h := if_f hc h
      refine lv_goto (tgt := 1529) hx hb d_law_798 (by decide) ?_
      cases h
      exact kk _ _ _ hP hD hS (lv_sub hl [2, 3, 4, 5, 6] rfl)
    · have h := if_t hc h
      refine lv_aload_n hx hb d_law_786 rfl (lv_at hl 5 rfl) ?_
      refine lv_iconst (v := 0) hx hb d_law_787 (by decide) ?_
      refine lw_lald X hP d_law_788 ?_
      refine lv_iload hx hb d_law_789 (lv_at hl 0 rfl) ?_
      refine lv_i2l (v := (b2.1).toInt64) hx hb d_law_791 rfl ?_
      refine W.lcmp hx hb d_law_792 ?_
      refine lv_if_eq (tgt := 798) hx hb d_law_793 (by decide) (fun hc => ?_) (fun hc => ?_)
      · have h := if_t hc h
        refine lv_goto (tgt := 1529) hx hb d_law_798 (by decide) ?_
        cases h
        exact kk _ _ _ hP hD hS (lv_sub hl [2, 3, 4, 5, 6] rfl)
      · have h := if_f hc h
        cases h
  · have h := if_f hc h
    cases h
set_option maxHeartbeats 4000000 in
set_option maxRecDepth 100000 in
theorem lc_10 {p : Program} {l : Launch} {e : Env} {s : State} {m : MethodId} {below : List Frame} {meth : Method} {c : Code} {D : va_G} {ad : Nat → Nat} {ca : Nat → ClassId} {adM : Nat → Nat} {caM : Nat → ClassId} {o : Nat} {cO : ClassId} {A : Nat → Prop} {FU b L i : Nat} {xs : Nat → Int32} {Q : State → Prop} {cells slots : Nat} (X : FX p s m meth c code 7 ret "FlashFilesLaw" D (tyL ca caM cO) A) (hZ : ZS A s) (hN : NC s) (htr : l.stackTraces = false) (hXs : va_X b L xs s s.heap) (hbl : b < s.heap.size) (hbA : ¬ A b) (hL : L ≤ 3072) (hi : i + 6 ≤ L) (hcc : cells + 1 ≤ room_1.cells) (hss : slots + 6 ≤ room_1.slots) {g gM : St} {f : Nat → Int64} {r : (Nat → Int64) × St × St} {H : Heap} {locs : List Loc} {ls : Array Slot} (hP : va_P D cls (wL ad ca adM caM o cO g gM f) H) (hD : va_D A (wL ad ca adM caM o cO g gM f)) (hS : va_S A s.heap H locs) (hl : lv_has ls 7 [(0, .ref b), (1, .ref (ad 0)), (2, .ref (adM 0)), (3, .ref o), (4, .int (nI i))]) (h : lawC10 FU xs i f g gM = some r)
    (kk : ∀ (H : Heap) (locs : List Loc) (ls : Array Slot), va_P D cls (wL ad ca adM caM o cO r.2.1 r.2.2 r.1) H → va_D A (wL ad ca adM caM o cO r.2.1 r.2.2 r.1) → va_S A s.heap H locs → lv_has ls 7 [(0, .ref b), (1, .ref (ad 0)), (2, .ref (adM 0)), (3, .ref o), (4, .int (nI i))] → W p l e room_1 s m #[Value.ref b] below meth c H locs (cells + 1) (slots + 6) Q (F0 m 1529 ls [])) : W p l e room_1 s m #[Value.ref b] below meth c H locs cells slots Q (F0 m 801 ls []) := by
  have hx := X.1
  have hb := X.2.1
  unfold lawC10 at h
  refine lv_aload_n hx hb d_law_801 rfl (lv_at hl 1 rfl) ?_
  refine lv_aload_n hx hb d_law_802 rfl (lv_at hl 0 rfl) ?_
  refine lv_iload hx hb d_law_803 (lv_at hl 4 rfl) ?_
  refine lv_iconst (v := 1) hx hb d_law_805 (by decide) ?_
  refine lv_iadd hx hb d_law_806 ?_
  refine sc_ld (j := i + 1) X hXs hbl hbA hS (ni_1 i) (by omega) hL d_law_807 ?_
  refine lv_aload_n hx hb d_law_808 rfl (lv_at hl 0 rfl) ?_
  refine lv_iload hx hb d_law_809 (lv_at hl 4 rfl) ?_
  refine lv_iconst (v := 2) hx hb d_law_811 (by decide) ?_
  refine lv_iadd hx hb d_law_812 ?_
  refine sc_ld (j := i + 2) X hXs hbl hbA hS (ni_2 i) (by omega) hL d_law_813 ?_
  refine lv_aload_n hx hb d_law_814 rfl (lv_at hl 0 rfl) ?_
  refine lv_iload hx hb d_law_815 (lv_at hl 4 rfl) ?_
  refine lv_iconst (v := 3) hx hb d_law_817 (by decide) ?_
  refine lv_iadd hx hb d_law_818 ?_
  refine sc_ld (j := i + 3) X hXs hbl hbA hS (ni_3 i) (by omega) hL d_law_819 ?_
  refine lv_aload_n hx hb d_law_820 rfl (lv_at hl 3 rfl) ?_
  obtain ⟨p1, e1, h⟩ := bd_some h
  refine hs_S (As := [.ref (ad 0), .int (xs (i + 1)), .int (xs (i + 2)), .int (xs (i + 3)), .ref o]) X (h_write e1) hZ hN htr hP hD hS kw_137 ⟨⟨Nat.le_of_ble_eq_true rfl, Nat.le_of_ble_eq_true rfl⟩, hcc, hss⟩ rfl hl.1 rfl (Nat.le_of_ble_eq_true rfl) d_law_821 (fun H locs hP hD hS => ?_)
  have hP : va_P D cls (wL ad ca adM caM o cO p1.2.2 gM p1.2.1) H := hP
  have hD : va_D A (wL ad ca adM caM o cO p1.2.2 gM p1.2.1) := hD
  refine lv_istore hx hb d_law_824 hl (by decide) rfl (fun ls hl => ?_)
  have hl : lv_has ls 7 [(5, .int (p1.1)), (0, .ref b), (1, .ref (ad 0)), (2, .ref (adM 0)), (3, .ref o), (4, .int (nI i))] := hl
  refine lv_aload_n hx hb d_law_826 rfl (lv_at hl 3 rfl) ?_
  refine lv_aload_n hx hb d_law_827 rfl (lv_at hl 1 rfl) ?_
  refine lv_iload hx hb d_law_828 (lv_at hl 5 rfl) ?_
  refine lv_iconst (v := 1) hx hb d_law_830 (by decide) ?_
  refine lv_iadd hx hb d_law_831 ?_
  refine sc_ld (j := i + 1) X hXs hbl hbA hS (ni_1 i) (by omega) hL d_law_832 ?_
  refine lv_aload_n hx hb d_law_833 rfl (lv_at hl 1 rfl) ?_
  refine lv_iload hx hb d_law_834 (lv_at hl 5 rfl) ?_
  refine lv_iconst (v := 2) hx hb d_law_836 (by decide) ?_
  refine lv_iadd hx hb d_law_837 ?_
  refine sc_ld (j := i + 2) X hXs hbl hbA hS (ni_2 i) (by omega) hL d_law_838 ?_
  refine lv_aload_n hx hb d_law_839 rfl (lv_at hl 1 rfl) ?_
  refine lv_iload hx hb d_law_840 (lv_at hl 5 rfl) ?_
  refine lv_iconst (v := 3) hx hb d_law_842 (by decide) ?_
  refine lv_iadd hx hb d_law_843 ?_
  refine sc_ld (j := i + 3) X hXs hbl hbA hS (ni_3 i) (by omega) hL d_law_844 ?_
  obtain ⟨b2, e1, h⟩ := bd_some h
  refine fr_i (pre := wF ad ca p1.2.2) (w := wM adM caM gM) (post := [(o, .inl (cO, (1, .inr (.inl p1.2.1))))]) (X.on (vk_l (vk_r X.2.2.2.2.2.2.2.1))) (fg_runV (As := [.int (xs (i + 1)), .int (xs (i + 2)), .int (xs (i + 3))]) (X.on (vk_l (vk_r X.2.2.2.2.2.2.2.1))) (m_Mod_write e1 _) (vp_mid (pre := wF ad ca p1.2.2) (w := wM adM caM gM) (post := [(o, .inl (cO, (1, .inr (.inl p1.2.1))))]) hP) (vd_mid (pre := wF ad ca p1.2.2) (w := wM adM caM gM) (post := [(o, .inl (cO, (1, .inr (.inl p1.2.1))))]) hD) kv_LawM_139 ⟨⟨Nat.le_of_ble_eq_true rfl, Nat.le_of_ble_eq_true rfl⟩, by omega, by omega⟩ 0 rfl rfl rfl hl.1 rfl (Nat.le_of_ble_eq_true rfl) d_law_845) hP hD hS (fun H locs hP hD hS => ?_)
  have hP : va_P D cls (wL ad ca adM caM o cO p1.2.2 b2.2 p1.2.1) H := hP
  have hD : va_D A (wL ad ca adM caM o cO p1.2.2 b2.2 p1.2.1) := hD
  refine lv_istore hx hb d_law_848 hl (by decide) rfl (fun ls hl => ?_)
  have hl : lv_has ls 7 [(6, .int (b2.1)), (5, .int (p1.1)), (0, .ref b), (1, .ref (ad 0)), (2, .ref (adM 0)), (3, .ref o), (4, .int (nI i))] := hl
  refine lv_aload_n hx hb d_law_850 rfl (lv_at hl 4 rfl) ?_
  obtain ⟨b3, e1, h⟩ := bd_some h
  refine fr_i (pre := wF ad ca p1.2.2) (w := wM adM caM b2.2) (post := [(o, .inl (cO, (1, .inr (.inl p1.2.1))))]) (X.on (vk_l (vk_r X.2.2.2.2.2.2.2.1))) (fg_runV (As := []) (X.on (vk_l (vk_r X.2.2.2.2.2.2.2.1))) (m_Mod_thrown e1 _) (vp_mid (pre := wF ad ca p1.2.2) (w := wM adM caM b2.2) (post := [(o, .inl (cO, (1, .inr (.inl p1.2.1))))]) hP) (vd_mid (pre := wF ad ca p1.2.2) (w := wM adM caM b2.2) (post := [(o, .inl (cO, (1, .inr (.inl p1.2.1))))]) hD) kv_LawM_102 ⟨⟨Nat.le_of_ble_eq_true rfl, Nat.le_of_ble_eq_true rfl⟩, by omega, by omega⟩ 0 rfl rfl rfl hl.1 rfl (Nat.le_of_ble_eq_true rfl) d_law_851) hP hD hS (fun H locs hP hD hS => ?_)
  have hP : va_P D cls (wL ad ca adM caM o cO p1.2.2 b2.2 p1.2.1) H := hP
  have hD : va_D A (wL ad ca adM caM o cO p1.2.2 b2.2 p1.2.1) := hD
  refine lv_iload hx hb d_law_854 (lv_at hl 1 rfl) ?_
  refine lv_icmp_eq (tgt := 861) hx hb d_law_856 (by decide) (fun hc => ?_) (fun hc => ?_)
  · have h := if_t hc h
    refine lv_iload hx hb d_law_861 (lv_at hl 1 rfl) ?_
    refine lv_if_ne (tgt := 878) hx hb d_law_863 (by decide) (fun hc => ?_) (fun hc => ?_)
    · have h := if_f hc h
      refine lv_goto (tgt := 1529) hx hb d_law_878 (by decide) ?_
      cases h
      exact kk _ _ _ hP hD hS (lv_sub hl [2, 3, 4, 5, 6] rfl)
    · have h := if_t hc h
      refine lv_aload_n hx hb d_law_866 rfl (lv_at hl 5 rfl) ?_
      refine lv_iconst (v := 0) hx hb d_law_867 (by decide) ?_
      refine lw_lald X hP d_law_868 ?_
      refine lv_iload hx hb d_law_869 (lv_at hl 0 rfl) ?_
      refine lv_i2l (v := (b2.1).toInt64) hx hb d_law_871 rfl ?_
      refine W.lcmp hx hb d_law_872 ?_
      refine lv_if_eq (tgt := 878) hx hb d_law_873 (by decide) (fun hc => ?_) (fun hc => ?_)
      · have h := if_t hc h
        refine lv_goto (tgt := 1529) hx hb d_law_878 (by decide) ?_
        cases h
        exact kk _ _ _ hP hD hS (lv_sub hl [2, 3, 4, 5, 6] rfl)
      · have h := if_f hc h
        cases h
  · have h := if_f hc h
    cases h
set_option maxHeartbeats 4000000 in
set_option maxRecDepth 100000 in
theorem lc_11 {p : Program} {l : Launch} {e : Env} {s : State} {m : MethodId} {below : List Frame} {meth : Method} {c : Code} {D : va_G} {ad : Nat → Nat} {ca : Nat → ClassId} {adM : Nat → Nat} {caM : Nat → ClassId} {o : Nat} {cO : ClassId} {A : Nat → Prop} {FU b L i : Nat} {xs : Nat → Int32} {Q : State → Prop} {cells slots : Nat} (X : FX p s m meth c code 7 ret "FlashFilesLaw" D (tyL ca caM cO) A) (hZ : ZS A s) (hN : NC s) (htr : l.stackTraces = false) (hXs : va_X b L xs s s.heap) (hbl : b < s.heap.size) (hbA : ¬ A b) (hL : L ≤ 3072) (hi : i + 6 ≤ L) (hcc : cells + 1 ≤ room_1.cells) (hss : slots + 6 ≤ room_1.slots) {g gM : St} {f : Nat → Int64} {r : (Nat → Int64) × St × St} {H : Heap} {locs : List Loc} {ls : Array Slot} (hP : va_P D cls (wL ad ca adM caM o cO g gM f) H) (hD : va_D A (wL ad ca adM caM o cO g gM f)) (hS : va_S A s.heap H locs) (hl : lv_has ls 7 [(0, .ref b), (1, .ref (ad 0)), (2, .ref (adM 0)), (3, .ref o), (4, .int (nI i))]) (h : lawC11 FU xs i f g gM = some r)
    (kk : ∀ (H : Heap) (locs : List Loc) (ls : Array Slot), va_P D cls (wL ad ca adM caM o cO r.2.1 r.2.2 r.1) H → va_D A (wL ad ca adM caM o cO r.2.1 r.2.2 r.1) → va_S A s.heap H locs → lv_has ls 7 [(0, .ref b), (1, .ref (ad 0)), (2, .ref (adM 0)), (3, .ref o), (4, .int (nI i))] → W p l e room_1 s m #[Value.ref b] below meth c H locs (cells + 1) (slots + 6) Q (F0 m 1529 ls [])) : W p l e room_1 s m #[Value.ref b] below meth c H locs cells slots Q (F0 m 881 ls []) := by
  have hx := X.1
  have hb := X.2.1
  unfold lawC11 at h
  refine lv_aload_n hx hb d_law_881 rfl (lv_at hl 1 rfl) ?_
  refine lv_aload_n hx hb d_law_882 rfl (lv_at hl 0 rfl) ?_
  refine lv_iload hx hb d_law_883 (lv_at hl 4 rfl) ?_
  refine lv_iconst (v := 1) hx hb d_law_885 (by decide) ?_
  refine lv_iadd hx hb d_law_886 ?_
  refine sc_ld (j := i + 1) X hXs hbl hbA hS (ni_1 i) (by omega) hL d_law_887 ?_
  refine lv_aload_n hx hb d_law_888 rfl (lv_at hl 0 rfl) ?_
  refine lv_iload hx hb d_law_889 (lv_at hl 4 rfl) ?_
  refine lv_iconst (v := 2) hx hb d_law_891 (by decide) ?_
  refine lv_iadd hx hb d_law_892 ?_
  refine sc_ld (j := i + 2) X hXs hbl hbA hS (ni_2 i) (by omega) hL d_law_893 ?_
  refine lv_aload_n hx hb d_law_894 rfl (lv_at hl 0 rfl) ?_
  refine lv_iload hx hb d_law_895 (lv_at hl 4 rfl) ?_
  refine lv_iconst (v := 3) hx hb d_law_897 (by decide) ?_
  refine lv_iadd hx hb d_law_898 ?_
  refine sc_ld (j := i + 3) X hXs hbl hbA hS (ni_3 i) (by omega) hL d_law_899 ?_
  refine lv_aload_n hx hb d_law_900 rfl (lv_at hl 3 rfl) ?_
  obtain ⟨p1, e1, h⟩ := bd_some h
  refine hs_S (As := [.ref (ad 0), .int (xs (i + 1)), .int (xs (i + 2)), .int (xs (i + 3)), .ref o]) X (h_read e1) hZ hN htr hP hD hS kw_140 ⟨⟨Nat.le_of_ble_eq_true rfl, Nat.le_of_ble_eq_true rfl⟩, hcc, hss⟩ rfl hl.1 rfl (Nat.le_of_ble_eq_true rfl) d_law_901 (fun H locs hP hD hS => ?_)
  have hP : va_P D cls (wL ad ca adM caM o cO p1.2.2 gM p1.2.1) H := hP
  have hD : va_D A (wL ad ca adM caM o cO p1.2.2 gM p1.2.1) := hD
  refine lv_istore hx hb d_law_904 hl (by decide) rfl (fun ls hl => ?_)
  have hl : lv_has ls 7 [(5, .int (p1.1)), (0, .ref b), (1, .ref (ad 0)), (2, .ref (adM 0)), (3, .ref o), (4, .int (nI i))] := hl
  refine lv_aload_n hx hb d_law_906 rfl (lv_at hl 3 rfl) ?_
  refine lv_aload_n hx hb d_law_907 rfl (lv_at hl 1 rfl) ?_
  refine lv_iload hx hb d_law_908 (lv_at hl 5 rfl) ?_
  refine lv_iconst (v := 1) hx hb d_law_910 (by decide) ?_
  refine lv_iadd hx hb d_law_911 ?_
  refine sc_ld (j := i + 1) X hXs hbl hbA hS (ni_1 i) (by omega) hL d_law_912 ?_
  refine lv_aload_n hx hb d_law_913 rfl (lv_at hl 1 rfl) ?_
  refine lv_iload hx hb d_law_914 (lv_at hl 5 rfl) ?_
  refine lv_iconst (v := 2) hx hb d_law_916 (by decide) ?_
  refine lv_iadd hx hb d_law_917 ?_
  refine sc_ld (j := i + 2) X hXs hbl hbA hS (ni_2 i) (by omega) hL d_law_918 ?_
  refine lv_aload_n hx hb d_law_919 rfl (lv_at hl 1 rfl) ?_
  refine lv_iload hx hb d_law_920 (lv_at hl 5 rfl) ?_
  refine lv_iconst (v := 3) hx hb d_law_922 (by decide) ?_
  refine lv_iadd hx hb d_law_923 ?_
  refine sc_ld (j := i + 3) X hXs hbl hbA hS (ni_3 i) (by omega) hL d_law_924 ?_
  obtain ⟨b2, e1, h⟩ := bd_some h
  refine fr_i (pre := wF ad ca p1.2.2) (w := wM adM caM gM) (post := [(o, .inl (cO, (1, .inr (.inl p1.2.1))))]) (X.on (vk_l (vk_r X.2.2.2.2.2.2.2.1))) (fg_runV (As := [.int (xs (i + 1)), .int (xs (i + 2)), .int (xs (i + 3))]) (X.on (vk_l (vk_r X.2.2.2.2.2.2.2.1))) (m_Mod_read e1 _) (vp_mid (pre := wF ad ca p1.2.2) (w := wM adM caM gM) (post := [(o, .inl (cO, (1, .inr (.inl p1.2.1))))]) hP) (vd_mid (pre := wF ad ca p1.2.2) (w := wM adM caM gM) (post := [(o, .inl (cO, (1, .inr (.inl p1.2.1))))]) hD) kv_LawM_142 ⟨⟨Nat.le_of_ble_eq_true rfl, Nat.le_of_ble_eq_true rfl⟩, by omega, by omega⟩ 0 rfl rfl rfl hl.1 rfl (Nat.le_of_ble_eq_true rfl) d_law_925) hP hD hS (fun H locs hP hD hS => ?_)
  have hP : va_P D cls (wL ad ca adM caM o cO p1.2.2 b2.2 p1.2.1) H := hP
  have hD : va_D A (wL ad ca adM caM o cO p1.2.2 b2.2 p1.2.1) := hD
  refine lv_istore hx hb d_law_928 hl (by decide) rfl (fun ls hl => ?_)
  have hl : lv_has ls 7 [(6, .int (b2.1)), (5, .int (p1.1)), (0, .ref b), (1, .ref (ad 0)), (2, .ref (adM 0)), (3, .ref o), (4, .int (nI i))] := hl
  refine lv_aload_n hx hb d_law_930 rfl (lv_at hl 4 rfl) ?_
  obtain ⟨b3, e1, h⟩ := bd_some h
  refine fr_i (pre := wF ad ca p1.2.2) (w := wM adM caM b2.2) (post := [(o, .inl (cO, (1, .inr (.inl p1.2.1))))]) (X.on (vk_l (vk_r X.2.2.2.2.2.2.2.1))) (fg_runV (As := []) (X.on (vk_l (vk_r X.2.2.2.2.2.2.2.1))) (m_Mod_thrown e1 _) (vp_mid (pre := wF ad ca p1.2.2) (w := wM adM caM b2.2) (post := [(o, .inl (cO, (1, .inr (.inl p1.2.1))))]) hP) (vd_mid (pre := wF ad ca p1.2.2) (w := wM adM caM b2.2) (post := [(o, .inl (cO, (1, .inr (.inl p1.2.1))))]) hD) kv_LawM_102 ⟨⟨Nat.le_of_ble_eq_true rfl, Nat.le_of_ble_eq_true rfl⟩, by omega, by omega⟩ 0 rfl rfl rfl hl.1 rfl (Nat.le_of_ble_eq_true rfl) d_law_931) hP hD hS (fun H locs hP hD hS => ?_)
  have hP : va_P D cls (wL ad ca adM caM o cO p1.2.2 b2.2 p1.2.1) H := hP
  have hD : va_D A (wL ad ca adM caM o cO p1.2.2 b2.2 p1.2.1) := hD
  refine lv_iload hx hb d_law_934 (lv_at hl 1 rfl) ?_
  refine lv_icmp_eq (tgt := 941) hx hb d_law_936 (by decide) (fun hc => ?_) (fun hc => ?_)
  · have h := if_t hc h
    refine lv_iload hx hb d_law_941 (lv_at hl 1 rfl) ?_
    refine lv_if_ne (tgt := 958) hx hb d_law_943 (by decide) (fun hc => ?_) (fun hc => ?_)
    · have h := if_f hc h
      refine lv_goto (tgt := 1529) hx hb d_law_958 (by decide) ?_
      cases h
      exact kk _ _ _ hP hD hS (lv_sub hl [2, 3, 4, 5, 6] rfl)
    · have h := if_t hc h
      refine lv_aload_n hx hb d_law_946 rfl (lv_at hl 5 rfl) ?_
      refine lv_iconst (v := 0) hx hb d_law_947 (by decide) ?_
      refine lw_lald X hP d_law_948 ?_
      refine lv_iload hx hb d_law_949 (lv_at hl 0 rfl) ?_
      refine lv_i2l (v := (b2.1).toInt64) hx hb d_law_951 rfl ?_
      refine W.lcmp hx hb d_law_952 ?_
      refine lv_if_eq (tgt := 958) hx hb d_law_953 (by decide) (fun hc => ?_) (fun hc => ?_)
      · have h := if_t hc h
        refine lv_goto (tgt := 1529) hx hb d_law_958 (by decide) ?_
        cases h
        exact kk _ _ _ hP hD hS (lv_sub hl [2, 3, 4, 5, 6] rfl)
      · have h := if_f hc h
        cases h
  · have h := if_f hc h
    cases h
set_option maxHeartbeats 4000000 in
set_option maxRecDepth 100000 in
theorem lc_12 {p : Program} {l : Launch} {e : Env} {s : State} {m : MethodId} {below : List Frame} {meth : Method} {c : Code} {D : va_G} {ad : Nat → Nat} {ca : Nat → ClassId} {adM : Nat → Nat} {caM : Nat → ClassId} {o : Nat} {cO : ClassId} {A : Nat → Prop} {FU b L i : Nat} {xs : Nat → Int32} {Q : State → Prop} {cells slots : Nat} (X : FX p s m meth c code 7 ret "FlashFilesLaw" D (tyL ca caM cO) A) (hZ : ZS A s) (hN : NC s) (htr : l.stackTraces = false) (hXs : va_X b L xs s s.heap) (hbl : b < s.heap.size) (hbA : ¬ A b) (hL : L ≤ 3072) (hi : i + 6 ≤ L) (hcc : cells + 1 ≤ room_1.cells) (hss : slots + 6 ≤ room_1.slots) {g gM : St} {f : Nat → Int64} {r : (Nat → Int64) × St × St} {H : Heap} {locs : List Loc} {ls : Array Slot} (hP : va_P D cls (wL ad ca adM caM o cO g gM f) H) (hD : va_D A (wL ad ca adM caM o cO g gM f)) (hS : va_S A s.heap H locs) (hl : lv_has ls 7 [(0, .ref b), (1, .ref (ad 0)), (2, .ref (adM 0)), (3, .ref o), (4, .int (nI i))]) (h : lawC12 FU xs i f g gM = some r)
    (kk : ∀ (H : Heap) (locs : List Loc) (ls : Array Slot), va_P D cls (wL ad ca adM caM o cO r.2.1 r.2.2 r.1) H → va_D A (wL ad ca adM caM o cO r.2.1 r.2.2 r.1) → va_S A s.heap H locs → lv_has ls 7 [(0, .ref b), (1, .ref (ad 0)), (2, .ref (adM 0)), (3, .ref o), (4, .int (nI i))] → W p l e room_1 s m #[Value.ref b] below meth c H locs (cells + 1) (slots + 6) Q (F0 m 1529 ls [])) : W p l e room_1 s m #[Value.ref b] below meth c H locs cells slots Q (F0 m 961 ls []) := by
  have hx := X.1
  have hb := X.2.1
  unfold lawC12 at h
  refine lv_aload_n hx hb d_law_961 rfl (lv_at hl 1 rfl) ?_
  refine lv_aload_n hx hb d_law_962 rfl (lv_at hl 0 rfl) ?_
  refine lv_iload hx hb d_law_963 (lv_at hl 4 rfl) ?_
  refine lv_iconst (v := 1) hx hb d_law_965 (by decide) ?_
  refine lv_iadd hx hb d_law_966 ?_
  refine sc_ld (j := i + 1) X hXs hbl hbA hS (ni_1 i) (by omega) hL d_law_967 ?_
  refine lv_aload_n hx hb d_law_968 rfl (lv_at hl 3 rfl) ?_
  obtain ⟨p1, e1, h⟩ := bd_some h
  refine hs_S (As := [.ref (ad 0), .int (xs (i + 1)), .ref o]) X (h_byteAt e1) hZ hN htr hP hD hS kw_143 ⟨⟨Nat.le_of_ble_eq_true rfl, Nat.le_of_ble_eq_true rfl⟩, hcc, hss⟩ rfl hl.1 rfl (Nat.le_of_ble_eq_true rfl) d_law_969 (fun H locs hP hD hS => ?_)
  have hP : va_P D cls (wL ad ca adM caM o cO p1.2.2 gM p1.2.1) H := hP
  have hD : va_D A (wL ad ca adM caM o cO p1.2.2 gM p1.2.1) := hD
  refine lv_istore hx hb d_law_972 hl (by decide) rfl (fun ls hl => ?_)
  have hl : lv_has ls 7 [(5, .int (p1.1)), (0, .ref b), (1, .ref (ad 0)), (2, .ref (adM 0)), (3, .ref o), (4, .int (nI i))] := hl
  refine lv_aload_n hx hb d_law_974 rfl (lv_at hl 3 rfl) ?_
  refine lv_aload_n hx hb d_law_975 rfl (lv_at hl 1 rfl) ?_
  refine lv_iload hx hb d_law_976 (lv_at hl 5 rfl) ?_
  refine lv_iconst (v := 1) hx hb d_law_978 (by decide) ?_
  refine lv_iadd hx hb d_law_979 ?_
  refine sc_ld (j := i + 1) X hXs hbl hbA hS (ni_1 i) (by omega) hL d_law_980 ?_
  obtain ⟨b2, e1, h⟩ := bd_some h
  refine fr_i (pre := wF ad ca p1.2.2) (w := wM adM caM gM) (post := [(o, .inl (cO, (1, .inr (.inl p1.2.1))))]) (X.on (vk_l (vk_r X.2.2.2.2.2.2.2.1))) (fg_runV (As := [.int (xs (i + 1))]) (X.on (vk_l (vk_r X.2.2.2.2.2.2.2.1))) (m_Mod_byteAt e1 _) (vp_mid (pre := wF ad ca p1.2.2) (w := wM adM caM gM) (post := [(o, .inl (cO, (1, .inr (.inl p1.2.1))))]) hP) (vd_mid (pre := wF ad ca p1.2.2) (w := wM adM caM gM) (post := [(o, .inl (cO, (1, .inr (.inl p1.2.1))))]) hD) kv_LawM_146 ⟨⟨Nat.le_of_ble_eq_true rfl, Nat.le_of_ble_eq_true rfl⟩, by omega, by omega⟩ 0 rfl rfl rfl hl.1 rfl (Nat.le_of_ble_eq_true rfl) d_law_981) hP hD hS (fun H locs hP hD hS => ?_)
  have hP : va_P D cls (wL ad ca adM caM o cO p1.2.2 b2.2 p1.2.1) H := hP
  have hD : va_D A (wL ad ca adM caM o cO p1.2.2 b2.2 p1.2.1) := hD
  refine lv_istore hx hb d_law_984 hl (by decide) rfl (fun ls hl => ?_)
  have hl : lv_has ls 7 [(6, .int (b2.1)), (5, .int (p1.1)), (0, .ref b), (1, .ref (ad 0)), (2, .ref (adM 0)), (3, .ref o), (4, .int (nI i))] := hl
  refine lv_aload_n hx hb d_law_986 rfl (lv_at hl 4 rfl) ?_
  obtain ⟨b3, e1, h⟩ := bd_some h
  refine fr_i (pre := wF ad ca p1.2.2) (w := wM adM caM b2.2) (post := [(o, .inl (cO, (1, .inr (.inl p1.2.1))))]) (X.on (vk_l (vk_r X.2.2.2.2.2.2.2.1))) (fg_runV (As := []) (X.on (vk_l (vk_r X.2.2.2.2.2.2.2.1))) (m_Mod_thrown e1 _) (vp_mid (pre := wF ad ca p1.2.2) (w := wM adM caM b2.2) (post := [(o, .inl (cO, (1, .inr (.inl p1.2.1))))]) hP) (vd_mid (pre := wF ad ca p1.2.2) (w := wM adM caM b2.2) (post := [(o, .inl (cO, (1, .inr (.inl p1.2.1))))]) hD) kv_LawM_102 ⟨⟨Nat.le_of_ble_eq_true rfl, Nat.le_of_ble_eq_true rfl⟩, by omega, by omega⟩ 0 rfl rfl rfl hl.1 rfl (Nat.le_of_ble_eq_true rfl) d_law_987) hP hD hS (fun H locs hP hD hS => ?_)
  have hP : va_P D cls (wL ad ca adM caM o cO p1.2.2 b2.2 p1.2.1) H := hP
  have hD : va_D A (wL ad ca adM caM o cO p1.2.2 b2.2 p1.2.1) := hD
  refine lv_iload hx hb d_law_990 (lv_at hl 1 rfl) ?_
  refine lv_icmp_eq (tgt := 997) hx hb d_law_992 (by decide) (fun hc => ?_) (fun hc => ?_)
  · have h := if_t hc h
    refine lv_iload hx hb d_law_997 (lv_at hl 1 rfl) ?_
    refine lv_if_ne (tgt := 1014) hx hb d_law_999 (by decide) (fun hc => ?_) (fun hc => ?_)
    · have h := if_f hc h
      refine lv_goto (tgt := 1529) hx hb d_law_1014 (by decide) ?_
      cases h
      exact kk _ _ _ hP hD hS (lv_sub hl [2, 3, 4, 5, 6] rfl)
    · have h := if_t hc h
      refine lv_aload_n hx hb d_law_1002 rfl (lv_at hl 5 rfl) ?_
      refine lv_iconst (v := 0) hx hb d_law_1003 (by decide) ?_
      refine lw_lald X hP d_law_1004 ?_
      refine lv_iload hx hb d_law_1005 (lv_at hl 0 rfl) ?_
      refine lv_i2l (v := (b2.1).toInt64) hx hb d_law_1007 rfl ?_
      refine W.lcmp hx hb d_law_1008 ?_
      refine lv_if_eq (tgt := 1014) hx hb d_law_1009 (by decide) (fun hc => ?_) (fun hc => ?_)
      · have h := if_t hc h
        refine lv_goto (tgt := 1529) hx hb d_law_1014 (by decide) ?_
        cases h
        exact kk _ _ _ hP hD hS (lv_sub hl [2, 3, 4, 5, 6] rfl)
      · have h := if_f hc h
        cases h
  · have h := if_f hc h
    cases h
set_option maxHeartbeats 4000000 in
set_option maxRecDepth 100000 in
theorem lc_13 {p : Program} {l : Launch} {e : Env} {s : State} {m : MethodId} {below : List Frame} {meth : Method} {c : Code} {D : va_G} {ad : Nat → Nat} {ca : Nat → ClassId} {adM : Nat → Nat} {caM : Nat → ClassId} {o : Nat} {cO : ClassId} {A : Nat → Prop} {FU b L i : Nat} {xs : Nat → Int32} {Q : State → Prop} {cells slots : Nat} (X : FX p s m meth c code 7 ret "FlashFilesLaw" D (tyL ca caM cO) A) (hZ : ZS A s) (hN : NC s) (htr : l.stackTraces = false) (hXs : va_X b L xs s s.heap) (hbl : b < s.heap.size) (hbA : ¬ A b) (hL : L ≤ 3072) (hi : i + 6 ≤ L) (hcc : cells + 1 ≤ room_1.cells) (hss : slots + 6 ≤ room_1.slots) {g gM : St} {f : Nat → Int64} {r : (Nat → Int64) × St × St} {H : Heap} {locs : List Loc} {ls : Array Slot} (hP : va_P D cls (wL ad ca adM caM o cO g gM f) H) (hD : va_D A (wL ad ca adM caM o cO g gM f)) (hS : va_S A s.heap H locs) (hl : lv_has ls 7 [(0, .ref b), (1, .ref (ad 0)), (2, .ref (adM 0)), (3, .ref o), (4, .int (nI i))]) (h : lawC13 FU xs i f g gM = some r)
    (kk : ∀ (H : Heap) (locs : List Loc) (ls : Array Slot), va_P D cls (wL ad ca adM caM o cO r.2.1 r.2.2 r.1) H → va_D A (wL ad ca adM caM o cO r.2.1 r.2.2 r.1) → va_S A s.heap H locs → lv_has ls 7 [(0, .ref b), (1, .ref (ad 0)), (2, .ref (adM 0)), (3, .ref o), (4, .int (nI i))] → W p l e room_1 s m #[Value.ref b] below meth c H locs (cells + 1) (slots + 6) Q (F0 m 1529 ls [])) : W p l e room_1 s m #[Value.ref b] below meth c H locs cells slots Q (F0 m 1017 ls []) := by
  have hx := X.1
  have hb := X.2.1
  unfold lawC13 at h
  refine lv_aload_n hx hb d_law_1017 rfl (lv_at hl 1 rfl) ?_
  refine lv_aload_n hx hb d_law_1018 rfl (lv_at hl 0 rfl) ?_
  refine lv_iload hx hb d_law_1019 (lv_at hl 4 rfl) ?_
  refine lv_iconst (v := 1) hx hb d_law_1021 (by decide) ?_
  refine lv_iadd hx hb d_law_1022 ?_
  refine sc_ld (j := i + 1) X hXs hbl hbA hS (ni_1 i) (by omega) hL d_law_1023 ?_
  refine lv_aload_n hx hb d_law_1024 rfl (lv_at hl 0 rfl) ?_
  refine lv_iload hx hb d_law_1025 (lv_at hl 4 rfl) ?_
  refine lv_iconst (v := 2) hx hb d_law_1027 (by decide) ?_
  refine lv_iadd hx hb d_law_1028 ?_
  refine sc_ld (j := i + 2) X hXs hbl hbA hS (ni_2 i) (by omega) hL d_law_1029 ?_
  obtain ⟨p1, e1, h⟩ := bd_some h
  refine hs_S (As := [.ref (ad 0), .int (xs (i + 1)), .int (xs (i + 2))]) X (h_truncate e1) hZ hN htr hP hD hS kw_147 ⟨⟨Nat.le_of_ble_eq_true rfl, Nat.le_of_ble_eq_true rfl⟩, hcc, hss⟩ rfl hl.1 rfl (Nat.le_of_ble_eq_true rfl) d_law_1030 (fun H locs hP hD hS => ?_)
  have hP : va_P D cls (wL ad ca adM caM o cO p1.2.2 gM p1.2.1) H := hP
  have hD : va_D A (wL ad ca adM caM o cO p1.2.2 gM p1.2.1) := hD
  refine lv_istore hx hb d_law_1033 hl (by decide) rfl (fun ls hl => ?_)
  have hl : lv_has ls 7 [(5, .int (p1.1)), (0, .ref b), (1, .ref (ad 0)), (2, .ref (adM 0)), (3, .ref o), (4, .int (nI i))] := hl
  refine lv_aload_n hx hb d_law_1035 rfl (lv_at hl 3 rfl) ?_
  refine lv_aload_n hx hb d_law_1036 rfl (lv_at hl 1 rfl) ?_
  refine lv_iload hx hb d_law_1037 (lv_at hl 5 rfl) ?_
  refine lv_iconst (v := 1) hx hb d_law_1039 (by decide) ?_
  refine lv_iadd hx hb d_law_1040 ?_
  refine sc_ld (j := i + 1) X hXs hbl hbA hS (ni_1 i) (by omega) hL d_law_1041 ?_
  refine lv_aload_n hx hb d_law_1042 rfl (lv_at hl 1 rfl) ?_
  refine lv_iload hx hb d_law_1043 (lv_at hl 5 rfl) ?_
  refine lv_iconst (v := 2) hx hb d_law_1045 (by decide) ?_
  refine lv_iadd hx hb d_law_1046 ?_
  refine sc_ld (j := i + 2) X hXs hbl hbA hS (ni_2 i) (by omega) hL d_law_1047 ?_
  obtain ⟨b2, e1, h⟩ := bd_some h
  refine fr_v (pre := wF ad ca p1.2.2) (w := wM adM caM gM) (post := [(o, .inl (cO, (1, .inr (.inl p1.2.1))))]) (X.on (vk_l (vk_r X.2.2.2.2.2.2.2.1))) (fg_runV (As := [.int (xs (i + 1)), .int (xs (i + 2))]) (X.on (vk_l (vk_r X.2.2.2.2.2.2.2.1))) (m_Mod_truncate e1 _) (vp_mid (pre := wF ad ca p1.2.2) (w := wM adM caM gM) (post := [(o, .inl (cO, (1, .inr (.inl p1.2.1))))]) hP) (vd_mid (pre := wF ad ca p1.2.2) (w := wM adM caM gM) (post := [(o, .inl (cO, (1, .inr (.inl p1.2.1))))]) hD) kv_LawM_149 ⟨⟨Nat.le_of_ble_eq_true rfl, Nat.le_of_ble_eq_true rfl⟩, by omega, by omega⟩ 0 rfl rfl rfl hl.1 rfl (Nat.le_of_ble_eq_true rfl) d_law_1048) hP hD hS (fun H locs hP hD hS => ?_)
  have hP : va_P D cls (wL ad ca adM caM o cO p1.2.2 b2 p1.2.1) H := hP
  have hD : va_D A (wL ad ca adM caM o cO p1.2.2 b2 p1.2.1) := hD
  refine lv_aload_n hx hb d_law_1051 rfl (lv_at hl 3 rfl) ?_
  obtain ⟨b3, e1, h⟩ := bd_some h
  refine fr_i (pre := wF ad ca p1.2.2) (w := wM adM caM b2) (post := [(o, .inl (cO, (1, .inr (.inl p1.2.1))))]) (X.on (vk_l (vk_r X.2.2.2.2.2.2.2.1))) (fg_runV (As := []) (X.on (vk_l (vk_r X.2.2.2.2.2.2.2.1))) (m_Mod_thrown e1 _) (vp_mid (pre := wF ad ca p1.2.2) (w := wM adM caM b2) (post := [(o, .inl (cO, (1, .inr (.inl p1.2.1))))]) hP) (vd_mid (pre := wF ad ca p1.2.2) (w := wM adM caM b2) (post := [(o, .inl (cO, (1, .inr (.inl p1.2.1))))]) hD) kv_LawM_102 ⟨⟨Nat.le_of_ble_eq_true rfl, Nat.le_of_ble_eq_true rfl⟩, by omega, by omega⟩ 0 rfl rfl rfl hl.1 rfl (Nat.le_of_ble_eq_true rfl) d_law_1052) hP hD hS (fun H locs hP hD hS => ?_)
  have hP : va_P D cls (wL ad ca adM caM o cO p1.2.2 b2 p1.2.1) H := hP
  have hD : va_D A (wL ad ca adM caM o cO p1.2.2 b2 p1.2.1) := hD
  refine lv_iload hx hb d_law_1055 (lv_at hl 0 rfl) ?_
  refine lv_icmp_eq (tgt := 1062) hx hb d_law_1057 (by decide) (fun hc => ?_) (fun hc => ?_)
  · have h := if_t hc h
    refine lv_goto (tgt := 1529) hx hb d_law_1062 (by decide) ?_
    cases h
    exact kk _ _ _ hP hD hS (lv_sub hl [1, 2, 3, 4, 5] rfl)
  · have h := if_f hc h
    cases h
set_option maxHeartbeats 4000000 in
set_option maxRecDepth 100000 in
theorem lc_14 {p : Program} {l : Launch} {e : Env} {s : State} {m : MethodId} {below : List Frame} {meth : Method} {c : Code} {D : va_G} {ad : Nat → Nat} {ca : Nat → ClassId} {adM : Nat → Nat} {caM : Nat → ClassId} {o : Nat} {cO : ClassId} {A : Nat → Prop} {FU b L i : Nat} {xs : Nat → Int32} {Q : State → Prop} {cells slots : Nat} (X : FX p s m meth c code 7 ret "FlashFilesLaw" D (tyL ca caM cO) A) (hZ : ZS A s) (hN : NC s) (htr : l.stackTraces = false) (hXs : va_X b L xs s s.heap) (hbl : b < s.heap.size) (hbA : ¬ A b) (hL : L ≤ 3072) (hi : i + 6 ≤ L) (hcc : cells + 1 ≤ room_1.cells) (hss : slots + 6 ≤ room_1.slots) {g gM : St} {f : Nat → Int64} {r : (Nat → Int64) × St × St} {H : Heap} {locs : List Loc} {ls : Array Slot} (hP : va_P D cls (wL ad ca adM caM o cO g gM f) H) (hD : va_D A (wL ad ca adM caM o cO g gM f)) (hS : va_S A s.heap H locs) (hl : lv_has ls 7 [(0, .ref b), (1, .ref (ad 0)), (2, .ref (adM 0)), (3, .ref o), (4, .int (nI i))]) (h : lawC14 FU xs i f g gM = some r)
    (kk : ∀ (H : Heap) (locs : List Loc) (ls : Array Slot), va_P D cls (wL ad ca adM caM o cO r.2.1 r.2.2 r.1) H → va_D A (wL ad ca adM caM o cO r.2.1 r.2.2 r.1) → va_S A s.heap H locs → lv_has ls 7 [(0, .ref b), (1, .ref (ad 0)), (2, .ref (adM 0)), (3, .ref o), (4, .int (nI i))] → W p l e room_1 s m #[Value.ref b] below meth c H locs (cells + 1) (slots + 6) Q (F0 m 1529 ls [])) : W p l e room_1 s m #[Value.ref b] below meth c H locs cells slots Q (F0 m 1065 ls []) := by
  have hx := X.1
  have hb := X.2.1
  unfold lawC14 at h
  refine lv_aload_n hx hb d_law_1065 rfl (lv_at hl 1 rfl) ?_
  refine lv_aload_n hx hb d_law_1066 rfl (lv_at hl 0 rfl) ?_
  refine lv_iload hx hb d_law_1067 (lv_at hl 4 rfl) ?_
  refine lv_iconst (v := 1) hx hb d_law_1069 (by decide) ?_
  refine lv_iadd hx hb d_law_1070 ?_
  refine sc_ld (j := i + 1) X hXs hbl hbA hS (ni_1 i) (by omega) hL d_law_1071 ?_
  refine lv_aload_n hx hb d_law_1072 rfl (lv_at hl 3 rfl) ?_
  obtain ⟨p1, e1, h⟩ := bd_some h
  refine hs_S (As := [.ref (ad 0), .int (xs (i + 1)), .ref o]) X (h_fsync e1) hZ hN htr hP hD hS kw_150 ⟨⟨Nat.le_of_ble_eq_true rfl, Nat.le_of_ble_eq_true rfl⟩, hcc, hss⟩ rfl hl.1 rfl (Nat.le_of_ble_eq_true rfl) d_law_1073 (fun H locs hP hD hS => ?_)
  have hP : va_P D cls (wL ad ca adM caM o cO p1.2.2 gM p1.2.1) H := hP
  have hD : va_D A (wL ad ca adM caM o cO p1.2.2 gM p1.2.1) := hD
  refine lv_istore hx hb d_law_1076 hl (by decide) rfl (fun ls hl => ?_)
  have hl : lv_has ls 7 [(5, .int (p1.1)), (0, .ref b), (1, .ref (ad 0)), (2, .ref (adM 0)), (3, .ref o), (4, .int (nI i))] := hl
  refine lv_aload_n hx hb d_law_1078 rfl (lv_at hl 3 rfl) ?_
  refine lv_aload_n hx hb d_law_1079 rfl (lv_at hl 1 rfl) ?_
  refine lv_iload hx hb d_law_1080 (lv_at hl 5 rfl) ?_
  refine lv_iconst (v := 1) hx hb d_law_1082 (by decide) ?_
  refine lv_iadd hx hb d_law_1083 ?_
  refine sc_ld (j := i + 1) X hXs hbl hbA hS (ni_1 i) (by omega) hL d_law_1084 ?_
  obtain ⟨b2, e1, h⟩ := bd_some h
  refine fr_i (pre := wF ad ca p1.2.2) (w := wM adM caM gM) (post := [(o, .inl (cO, (1, .inr (.inl p1.2.1))))]) (X.on (vk_l (vk_r X.2.2.2.2.2.2.2.1))) (fg_runV (As := [.int (xs (i + 1))]) (X.on (vk_l (vk_r X.2.2.2.2.2.2.2.1))) (m_Mod_fsync e1 _) (vp_mid (pre := wF ad ca p1.2.2) (w := wM adM caM gM) (post := [(o, .inl (cO, (1, .inr (.inl p1.2.1))))]) hP) (vd_mid (pre := wF ad ca p1.2.2) (w := wM adM caM gM) (post := [(o, .inl (cO, (1, .inr (.inl p1.2.1))))]) hD) kv_LawM_152 ⟨⟨Nat.le_of_ble_eq_true rfl, Nat.le_of_ble_eq_true rfl⟩, by omega, by omega⟩ 0 rfl rfl rfl hl.1 rfl (Nat.le_of_ble_eq_true rfl) d_law_1085) hP hD hS (fun H locs hP hD hS => ?_)
  have hP : va_P D cls (wL ad ca adM caM o cO p1.2.2 b2.2 p1.2.1) H := hP
  have hD : va_D A (wL ad ca adM caM o cO p1.2.2 b2.2 p1.2.1) := hD
  refine lv_istore hx hb d_law_1088 hl (by decide) rfl (fun ls hl => ?_)
  have hl : lv_has ls 7 [(6, .int (b2.1)), (5, .int (p1.1)), (0, .ref b), (1, .ref (ad 0)), (2, .ref (adM 0)), (3, .ref o), (4, .int (nI i))] := hl
  refine lv_aload_n hx hb d_law_1090 rfl (lv_at hl 4 rfl) ?_
  obtain ⟨b3, e1, h⟩ := bd_some h
  refine fr_i (pre := wF ad ca p1.2.2) (w := wM adM caM b2.2) (post := [(o, .inl (cO, (1, .inr (.inl p1.2.1))))]) (X.on (vk_l (vk_r X.2.2.2.2.2.2.2.1))) (fg_runV (As := []) (X.on (vk_l (vk_r X.2.2.2.2.2.2.2.1))) (m_Mod_thrown e1 _) (vp_mid (pre := wF ad ca p1.2.2) (w := wM adM caM b2.2) (post := [(o, .inl (cO, (1, .inr (.inl p1.2.1))))]) hP) (vd_mid (pre := wF ad ca p1.2.2) (w := wM adM caM b2.2) (post := [(o, .inl (cO, (1, .inr (.inl p1.2.1))))]) hD) kv_LawM_102 ⟨⟨Nat.le_of_ble_eq_true rfl, Nat.le_of_ble_eq_true rfl⟩, by omega, by omega⟩ 0 rfl rfl rfl hl.1 rfl (Nat.le_of_ble_eq_true rfl) d_law_1091) hP hD hS (fun H locs hP hD hS => ?_)
  have hP : va_P D cls (wL ad ca adM caM o cO p1.2.2 b2.2 p1.2.1) H := hP
  have hD : va_D A (wL ad ca adM caM o cO p1.2.2 b2.2 p1.2.1) := hD
  refine lv_iload hx hb d_law_1094 (lv_at hl 1 rfl) ?_
  refine lv_icmp_eq (tgt := 1101) hx hb d_law_1096 (by decide) (fun hc => ?_) (fun hc => ?_)
  · have h := if_t hc h
    refine lv_iload hx hb d_law_1101 (lv_at hl 1 rfl) ?_
    refine lv_if_ne (tgt := 1118) hx hb d_law_1103 (by decide) (fun hc => ?_) (fun hc => ?_)
    · have h := if_f hc h
      refine lv_goto (tgt := 1529) hx hb d_law_1118 (by decide) ?_
      cases h
      exact kk _ _ _ hP hD hS (lv_sub hl [2, 3, 4, 5, 6] rfl)
    · have h := if_t hc h
      refine lv_aload_n hx hb d_law_1106 rfl (lv_at hl 5 rfl) ?_
      refine lv_iconst (v := 0) hx hb d_law_1107 (by decide) ?_
      refine lw_lald X hP d_law_1108 ?_
      refine lv_iload hx hb d_law_1109 (lv_at hl 0 rfl) ?_
      refine lv_i2l (v := (b2.1).toInt64) hx hb d_law_1111 rfl ?_
      refine W.lcmp hx hb d_law_1112 ?_
      refine lv_if_eq (tgt := 1118) hx hb d_law_1113 (by decide) (fun hc => ?_) (fun hc => ?_)
      · have h := if_t hc h
        refine lv_goto (tgt := 1529) hx hb d_law_1118 (by decide) ?_
        cases h
        exact kk _ _ _ hP hD hS (lv_sub hl [2, 3, 4, 5, 6] rfl)
      · have h := if_f hc h
        cases h
  · have h := if_f hc h
    cases h
set_option maxHeartbeats 4000000 in
set_option maxRecDepth 100000 in
theorem lc_15 {p : Program} {l : Launch} {e : Env} {s : State} {m : MethodId} {below : List Frame} {meth : Method} {c : Code} {D : va_G} {ad : Nat → Nat} {ca : Nat → ClassId} {adM : Nat → Nat} {caM : Nat → ClassId} {o : Nat} {cO : ClassId} {A : Nat → Prop} {FU b L i : Nat} {xs : Nat → Int32} {Q : State → Prop} {cells slots : Nat} (X : FX p s m meth c code 7 ret "FlashFilesLaw" D (tyL ca caM cO) A) (hZ : ZS A s) (hN : NC s) (htr : l.stackTraces = false) (hXs : va_X b L xs s s.heap) (hbl : b < s.heap.size) (hbA : ¬ A b) (hL : L ≤ 3072) (hi : i + 6 ≤ L) (hcc : cells + 1 ≤ room_1.cells) (hss : slots + 6 ≤ room_1.slots) {g gM : St} {f : Nat → Int64} {r : (Nat → Int64) × St × St} {H : Heap} {locs : List Loc} {ls : Array Slot} (hP : va_P D cls (wL ad ca adM caM o cO g gM f) H) (hD : va_D A (wL ad ca adM caM o cO g gM f)) (hS : va_S A s.heap H locs) (hl : lv_has ls 7 [(0, .ref b), (1, .ref (ad 0)), (2, .ref (adM 0)), (3, .ref o), (4, .int (nI i))]) (h : lawC15 FU xs i f g gM = some r)
    (kk : ∀ (H : Heap) (locs : List Loc) (ls : Array Slot), va_P D cls (wL ad ca adM caM o cO r.2.1 r.2.2 r.1) H → va_D A (wL ad ca adM caM o cO r.2.1 r.2.2 r.1) → va_S A s.heap H locs → lv_has ls 7 [(0, .ref b), (1, .ref (ad 0)), (2, .ref (adM 0)), (3, .ref o), (4, .int (nI i))] → W p l e room_1 s m #[Value.ref b] below meth c H locs (cells + 1) (slots + 6) Q (F0 m 1529 ls [])) : W p l e room_1 s m #[Value.ref b] below meth c H locs cells slots Q (F0 m 1121 ls []) := by
  have hx := X.1
  have hb := X.2.1
  unfold lawC15 at h
  refine lv_aload_n hx hb d_law_1121 rfl (lv_at hl 1 rfl) ?_
  refine lv_aload_n hx hb d_law_1122 rfl (lv_at hl 3 rfl) ?_
  obtain ⟨p1, e1, h⟩ := bd_some h
  refine hs_S (As := [.ref (ad 0), .ref o]) X (h_sync e1) hZ hN htr hP hD hS kw_153 ⟨⟨Nat.le_of_ble_eq_true rfl, Nat.le_of_ble_eq_true rfl⟩, hcc, hss⟩ rfl hl.1 rfl (Nat.le_of_ble_eq_true rfl) d_law_1123 (fun H locs hP hD hS => ?_)
  have hP : va_P D cls (wL ad ca adM caM o cO p1.2.2 gM p1.2.1) H := hP
  have hD : va_D A (wL ad ca adM caM o cO p1.2.2 gM p1.2.1) := hD
  refine lv_istore hx hb d_law_1126 hl (by decide) rfl (fun ls hl => ?_)
  have hl : lv_has ls 7 [(5, .int (p1.1)), (0, .ref b), (1, .ref (ad 0)), (2, .ref (adM 0)), (3, .ref o), (4, .int (nI i))] := hl
  refine lv_aload_n hx hb d_law_1128 rfl (lv_at hl 3 rfl) ?_
  obtain ⟨b2, e1, h⟩ := bd_some h
  refine fr_i (pre := wF ad ca p1.2.2) (w := wM adM caM gM) (post := [(o, .inl (cO, (1, .inr (.inl p1.2.1))))]) (X.on (vk_l (vk_r X.2.2.2.2.2.2.2.1))) (fg_runV (As := []) (X.on (vk_l (vk_r X.2.2.2.2.2.2.2.1))) (m_Mod_sync e1 _) (vp_mid (pre := wF ad ca p1.2.2) (w := wM adM caM gM) (post := [(o, .inl (cO, (1, .inr (.inl p1.2.1))))]) hP) (vd_mid (pre := wF ad ca p1.2.2) (w := wM adM caM gM) (post := [(o, .inl (cO, (1, .inr (.inl p1.2.1))))]) hD) kv_LawM_156 ⟨⟨Nat.le_of_ble_eq_true rfl, Nat.le_of_ble_eq_true rfl⟩, by omega, by omega⟩ 0 rfl rfl rfl hl.1 rfl (Nat.le_of_ble_eq_true rfl) d_law_1129) hP hD hS (fun H locs hP hD hS => ?_)
  have hP : va_P D cls (wL ad ca adM caM o cO p1.2.2 b2.2 p1.2.1) H := hP
  have hD : va_D A (wL ad ca adM caM o cO p1.2.2 b2.2 p1.2.1) := hD
  refine lv_istore hx hb d_law_1132 hl (by decide) rfl (fun ls hl => ?_)
  have hl : lv_has ls 7 [(6, .int (b2.1)), (5, .int (p1.1)), (0, .ref b), (1, .ref (ad 0)), (2, .ref (adM 0)), (3, .ref o), (4, .int (nI i))] := hl
  refine lv_aload_n hx hb d_law_1134 rfl (lv_at hl 4 rfl) ?_
  obtain ⟨b3, e1, h⟩ := bd_some h
  refine fr_i (pre := wF ad ca p1.2.2) (w := wM adM caM b2.2) (post := [(o, .inl (cO, (1, .inr (.inl p1.2.1))))]) (X.on (vk_l (vk_r X.2.2.2.2.2.2.2.1))) (fg_runV (As := []) (X.on (vk_l (vk_r X.2.2.2.2.2.2.2.1))) (m_Mod_thrown e1 _) (vp_mid (pre := wF ad ca p1.2.2) (w := wM adM caM b2.2) (post := [(o, .inl (cO, (1, .inr (.inl p1.2.1))))]) hP) (vd_mid (pre := wF ad ca p1.2.2) (w := wM adM caM b2.2) (post := [(o, .inl (cO, (1, .inr (.inl p1.2.1))))]) hD) kv_LawM_102 ⟨⟨Nat.le_of_ble_eq_true rfl, Nat.le_of_ble_eq_true rfl⟩, by omega, by omega⟩ 0 rfl rfl rfl hl.1 rfl (Nat.le_of_ble_eq_true rfl) d_law_1135) hP hD hS (fun H locs hP hD hS => ?_)
  have hP : va_P D cls (wL ad ca adM caM o cO p1.2.2 b2.2 p1.2.1) H := hP
  have hD : va_D A (wL ad ca adM caM o cO p1.2.2 b2.2 p1.2.1) := hD
  refine lv_iload hx hb d_law_1138 (lv_at hl 1 rfl) ?_
  refine lv_icmp_eq (tgt := 1145) hx hb d_law_1140 (by decide) (fun hc => ?_) (fun hc => ?_)
  · have h := if_t hc h
    refine lv_iload hx hb d_law_1145 (lv_at hl 1 rfl) ?_
    refine lv_if_ne (tgt := 1162) hx hb d_law_1147 (by decide) (fun hc => ?_) (fun hc => ?_)
    · have h := if_f hc h
      refine lv_goto (tgt := 1529) hx hb d_law_1162 (by decide) ?_
      cases h
      exact kk _ _ _ hP hD hS (lv_sub hl [2, 3, 4, 5, 6] rfl)
    · have h := if_t hc h
      refine lv_aload_n hx hb d_law_1150 rfl (lv_at hl 5 rfl) ?_
      refine lv_iconst (v := 0) hx hb d_law_1151 (by decide) ?_
      refine lw_lald X hP d_law_1152 ?_
      refine lv_iload hx hb d_law_1153 (lv_at hl 0 rfl) ?_
      refine lv_i2l (v := (b2.1).toInt64) hx hb d_law_1155 rfl ?_
      refine W.lcmp hx hb d_law_1156 ?_
      refine lv_if_eq (tgt := 1162) hx hb d_law_1157 (by decide) (fun hc => ?_) (fun hc => ?_)
      · have h := if_t hc h
        refine lv_goto (tgt := 1529) hx hb d_law_1162 (by decide) ?_
        cases h
        exact kk _ _ _ hP hD hS (lv_sub hl [2, 3, 4, 5, 6] rfl)
      · have h := if_f hc h
        cases h
  · have h := if_f hc h
    cases h
set_option maxHeartbeats 4000000 in
set_option maxRecDepth 100000 in
theorem lc_16 {p : Program} {l : Launch} {e : Env} {s : State} {m : MethodId} {below : List Frame} {meth : Method} {c : Code} {D : va_G} {ad : Nat → Nat} {ca : Nat → ClassId} {adM : Nat → Nat} {caM : Nat → ClassId} {o : Nat} {cO : ClassId} {A : Nat → Prop} {FU b L i : Nat} {xs : Nat → Int32} {Q : State → Prop} {cells slots : Nat} (X : FX p s m meth c code 7 ret "FlashFilesLaw" D (tyL ca caM cO) A) (hZ : ZS A s) (hN : NC s) (htr : l.stackTraces = false) (hXs : va_X b L xs s s.heap) (hbl : b < s.heap.size) (hbA : ¬ A b) (hL : L ≤ 3072) (hi : i + 6 ≤ L) (hcc : cells + 1 ≤ room_1.cells) (hss : slots + 6 ≤ room_1.slots) {g gM : St} {f : Nat → Int64} {r : (Nat → Int64) × St × St} {H : Heap} {locs : List Loc} {ls : Array Slot} (hP : va_P D cls (wL ad ca adM caM o cO g gM f) H) (hD : va_D A (wL ad ca adM caM o cO g gM f)) (hS : va_S A s.heap H locs) (hl : lv_has ls 7 [(0, .ref b), (1, .ref (ad 0)), (2, .ref (adM 0)), (3, .ref o), (4, .int (nI i))]) (h : lawC16 FU xs i f g gM = some r)
    (kk : ∀ (H : Heap) (locs : List Loc) (ls : Array Slot), va_P D cls (wL ad ca adM caM o cO r.2.1 r.2.2 r.1) H → va_D A (wL ad ca adM caM o cO r.2.1 r.2.2 r.1) → va_S A s.heap H locs → lv_has ls 7 [(0, .ref b), (1, .ref (ad 0)), (2, .ref (adM 0)), (3, .ref o), (4, .int (nI i))] → W p l e room_1 s m #[Value.ref b] below meth c H locs (cells + 1) (slots + 6) Q (F0 m 1529 ls [])) : W p l e room_1 s m #[Value.ref b] below meth c H locs cells slots Q (F0 m 1165 ls []) := by
  have hx := X.1
  have hb := X.2.1
  unfold lawC16 at h
  refine lv_aload_n hx hb d_law_1165 rfl (lv_at hl 1 rfl) ?_
  refine lv_aload_n hx hb d_law_1166 rfl (lv_at hl 0 rfl) ?_
  refine lv_iload hx hb d_law_1167 (lv_at hl 4 rfl) ?_
  refine lv_iconst (v := 1) hx hb d_law_1169 (by decide) ?_
  refine lv_iadd hx hb d_law_1170 ?_
  refine sc_ld (j := i + 1) X hXs hbl hbA hS (ni_1 i) (by omega) hL d_law_1171 ?_
  refine lv_aload_n hx hb d_law_1172 rfl (lv_at hl 0 rfl) ?_
  refine lv_iload hx hb d_law_1173 (lv_at hl 4 rfl) ?_
  refine lv_iconst (v := 2) hx hb d_law_1175 (by decide) ?_
  refine lv_iadd hx hb d_law_1176 ?_
  refine sc_ld (j := i + 2) X hXs hbl hbA hS (ni_2 i) (by omega) hL d_law_1177 ?_
  refine lv_aload_n hx hb d_law_1178 rfl (lv_at hl 3 rfl) ?_
  obtain ⟨p1, e1, h⟩ := bd_some h
  refine hs_S (As := [.ref (ad 0), .int (xs (i + 1)), .int (xs (i + 2)), .ref o]) X (h_name e1) hZ hN htr hP hD hS kw_157 ⟨⟨Nat.le_of_ble_eq_true rfl, Nat.le_of_ble_eq_true rfl⟩, hcc, hss⟩ rfl hl.1 rfl (Nat.le_of_ble_eq_true rfl) d_law_1179 (fun H locs hP hD hS => ?_)
  have hP : va_P D cls (wL ad ca adM caM o cO p1.2.2 gM p1.2.1) H := hP
  have hD : va_D A (wL ad ca adM caM o cO p1.2.2 gM p1.2.1) := hD
  refine lv_istore hx hb d_law_1182 hl (by decide) rfl (fun ls hl => ?_)
  have hl : lv_has ls 7 [(5, .int (p1.1)), (0, .ref b), (1, .ref (ad 0)), (2, .ref (adM 0)), (3, .ref o), (4, .int (nI i))] := hl
  refine lv_aload_n hx hb d_law_1184 rfl (lv_at hl 3 rfl) ?_
  refine lv_aload_n hx hb d_law_1185 rfl (lv_at hl 1 rfl) ?_
  refine lv_iload hx hb d_law_1186 (lv_at hl 5 rfl) ?_
  refine lv_iconst (v := 1) hx hb d_law_1188 (by decide) ?_
  refine lv_iadd hx hb d_law_1189 ?_
  refine sc_ld (j := i + 1) X hXs hbl hbA hS (ni_1 i) (by omega) hL d_law_1190 ?_
  refine lv_aload_n hx hb d_law_1191 rfl (lv_at hl 1 rfl) ?_
  refine lv_iload hx hb d_law_1192 (lv_at hl 5 rfl) ?_
  refine lv_iconst (v := 2) hx hb d_law_1194 (by decide) ?_
  refine lv_iadd hx hb d_law_1195 ?_
  refine sc_ld (j := i + 2) X hXs hbl hbA hS (ni_2 i) (by omega) hL d_law_1196 ?_
  obtain ⟨b2, e1, h⟩ := bd_some h
  refine fr_i (pre := wF ad ca p1.2.2) (w := wM adM caM gM) (post := [(o, .inl (cO, (1, .inr (.inl p1.2.1))))]) (X.on (vk_l (vk_r X.2.2.2.2.2.2.2.1))) (fg_runV (As := [.int (xs (i + 1)), .int (xs (i + 2))]) (X.on (vk_l (vk_r X.2.2.2.2.2.2.2.1))) (m_Mod_name e1 _) (vp_mid (pre := wF ad ca p1.2.2) (w := wM adM caM gM) (post := [(o, .inl (cO, (1, .inr (.inl p1.2.1))))]) hP) (vd_mid (pre := wF ad ca p1.2.2) (w := wM adM caM gM) (post := [(o, .inl (cO, (1, .inr (.inl p1.2.1))))]) hD) kv_LawM_159 ⟨⟨Nat.le_of_ble_eq_true rfl, Nat.le_of_ble_eq_true rfl⟩, by omega, by omega⟩ 0 rfl rfl rfl hl.1 rfl (Nat.le_of_ble_eq_true rfl) d_law_1197) hP hD hS (fun H locs hP hD hS => ?_)
  have hP : va_P D cls (wL ad ca adM caM o cO p1.2.2 b2.2 p1.2.1) H := hP
  have hD : va_D A (wL ad ca adM caM o cO p1.2.2 b2.2 p1.2.1) := hD
  refine lv_istore hx hb d_law_1200 hl (by decide) rfl (fun ls hl => ?_)
  have hl : lv_has ls 7 [(6, .int (b2.1)), (5, .int (p1.1)), (0, .ref b), (1, .ref (ad 0)), (2, .ref (adM 0)), (3, .ref o), (4, .int (nI i))] := hl
  refine lv_aload_n hx hb d_law_1202 rfl (lv_at hl 4 rfl) ?_
  obtain ⟨b3, e1, h⟩ := bd_some h
  refine fr_i (pre := wF ad ca p1.2.2) (w := wM adM caM b2.2) (post := [(o, .inl (cO, (1, .inr (.inl p1.2.1))))]) (X.on (vk_l (vk_r X.2.2.2.2.2.2.2.1))) (fg_runV (As := []) (X.on (vk_l (vk_r X.2.2.2.2.2.2.2.1))) (m_Mod_thrown e1 _) (vp_mid (pre := wF ad ca p1.2.2) (w := wM adM caM b2.2) (post := [(o, .inl (cO, (1, .inr (.inl p1.2.1))))]) hP) (vd_mid (pre := wF ad ca p1.2.2) (w := wM adM caM b2.2) (post := [(o, .inl (cO, (1, .inr (.inl p1.2.1))))]) hD) kv_LawM_102 ⟨⟨Nat.le_of_ble_eq_true rfl, Nat.le_of_ble_eq_true rfl⟩, by omega, by omega⟩ 0 rfl rfl rfl hl.1 rfl (Nat.le_of_ble_eq_true rfl) d_law_1203) hP hD hS (fun H locs hP hD hS => ?_)
  have hP : va_P D cls (wL ad ca adM caM o cO p1.2.2 b2.2 p1.2.1) H := hP
  have hD : va_D A (wL ad ca adM caM o cO p1.2.2 b2.2 p1.2.1) := hD
  refine lv_iload hx hb d_law_1206 (lv_at hl 1 rfl) ?_
  refine lv_icmp_eq (tgt := 1213) hx hb d_law_1208 (by decide) (fun hc => ?_) (fun hc => ?_)
  · have h := if_t hc h
    refine lv_iload hx hb d_law_1213 (lv_at hl 1 rfl) ?_
    refine lv_if_ne (tgt := 1230) hx hb d_law_1215 (by decide) (fun hc => ?_) (fun hc => ?_)
    · have h := if_f hc h
      refine lv_goto (tgt := 1529) hx hb d_law_1230 (by decide) ?_
      cases h
      exact kk _ _ _ hP hD hS (lv_sub hl [2, 3, 4, 5, 6] rfl)
    · have h := if_t hc h
      refine lv_aload_n hx hb d_law_1218 rfl (lv_at hl 5 rfl) ?_
      refine lv_iconst (v := 0) hx hb d_law_1219 (by decide) ?_
      refine lw_lald X hP d_law_1220 ?_
      refine lv_iload hx hb d_law_1221 (lv_at hl 0 rfl) ?_
      refine lv_i2l (v := (b2.1).toInt64) hx hb d_law_1223 rfl ?_
      refine W.lcmp hx hb d_law_1224 ?_
      refine lv_if_eq (tgt := 1230) hx hb d_law_1225 (by decide) (fun hc => ?_) (fun hc => ?_)
      · have h := if_t hc h
        refine lv_goto (tgt := 1529) hx hb d_law_1230 (by decide) ?_
        cases h
        exact kk _ _ _ hP hD hS (lv_sub hl [2, 3, 4, 5, 6] rfl)
      · have h := if_f hc h
        cases h
  · have h := if_f hc h
    cases h
set_option maxHeartbeats 4000000 in
set_option maxRecDepth 100000 in
theorem lc_17 {p : Program} {l : Launch} {e : Env} {s : State} {m : MethodId} {below : List Frame} {meth : Method} {c : Code} {D : va_G} {ad : Nat → Nat} {ca : Nat → ClassId} {adM : Nat → Nat} {caM : Nat → ClassId} {o : Nat} {cO : ClassId} {A : Nat → Prop} {FU b L i : Nat} {xs : Nat → Int32} {Q : State → Prop} {cells slots : Nat} (X : FX p s m meth c code 7 ret "FlashFilesLaw" D (tyL ca caM cO) A) (hZ : ZS A s) (hN : NC s) (htr : l.stackTraces = false) (hXs : va_X b L xs s s.heap) (hbl : b < s.heap.size) (hbA : ¬ A b) (hL : L ≤ 3072) (hi : i + 6 ≤ L) (hcc : cells + 1 ≤ room_1.cells) (hss : slots + 6 ≤ room_1.slots) {g gM : St} {f : Nat → Int64} {r : (Nat → Int64) × St × St} {H : Heap} {locs : List Loc} {ls : Array Slot} (hP : va_P D cls (wL ad ca adM caM o cO g gM f) H) (hD : va_D A (wL ad ca adM caM o cO g gM f)) (hS : va_S A s.heap H locs) (hl : lv_has ls 7 [(0, .ref b), (1, .ref (ad 0)), (2, .ref (adM 0)), (3, .ref o), (4, .int (nI i))]) (h : lawC17 FU xs i f g gM = some r)
    (kk : ∀ (H : Heap) (locs : List Loc) (ls : Array Slot), va_P D cls (wL ad ca adM caM o cO r.2.1 r.2.2 r.1) H → va_D A (wL ad ca adM caM o cO r.2.1 r.2.2 r.1) → va_S A s.heap H locs → lv_has ls 7 [(0, .ref b), (1, .ref (ad 0)), (2, .ref (adM 0)), (3, .ref o), (4, .int (nI i))] → W p l e room_1 s m #[Value.ref b] below meth c H locs (cells + 1) (slots + 6) Q (F0 m 1529 ls [])) : W p l e room_1 s m #[Value.ref b] below meth c H locs cells slots Q (F0 m 1233 ls []) := by
  have hx := X.1
  have hb := X.2.1
  unfold lawC17 at h
  refine lv_aload_n hx hb d_law_1233 rfl (lv_at hl 1 rfl) ?_
  refine lv_aload_n hx hb d_law_1234 rfl (lv_at hl 0 rfl) ?_
  refine lv_iload hx hb d_law_1235 (lv_at hl 4 rfl) ?_
  refine lv_iconst (v := 1) hx hb d_law_1237 (by decide) ?_
  refine lv_iadd hx hb d_law_1238 ?_
  refine sc_ld (j := i + 1) X hXs hbl hbA hS (ni_1 i) (by omega) hL d_law_1239 ?_
  refine lv_aload_n hx hb d_law_1240 rfl (lv_at hl 0 rfl) ?_
  refine lv_iload hx hb d_law_1241 (lv_at hl 4 rfl) ?_
  refine lv_iconst (v := 2) hx hb d_law_1243 (by decide) ?_
  refine lv_iadd hx hb d_law_1244 ?_
  refine sc_ld (j := i + 2) X hXs hbl hbA hS (ni_2 i) (by omega) hL d_law_1245 ?_
  refine lv_aload_n hx hb d_law_1246 rfl (lv_at hl 3 rfl) ?_
  obtain ⟨p1, e1, h⟩ := bd_some h
  refine hs_S (As := [.ref (ad 0), .int (xs (i + 1)), .int (xs (i + 2)), .ref o]) X (h_look e1) hZ hN htr hP hD hS kw_160 ⟨⟨Nat.le_of_ble_eq_true rfl, Nat.le_of_ble_eq_true rfl⟩, hcc, hss⟩ rfl hl.1 rfl (Nat.le_of_ble_eq_true rfl) d_law_1247 (fun H locs hP hD hS => ?_)
  have hP : va_P D cls (wL ad ca adM caM o cO p1.2.2 gM p1.2.1) H := hP
  have hD : va_D A (wL ad ca adM caM o cO p1.2.2 gM p1.2.1) := hD
  refine lv_istore hx hb d_law_1250 hl (by decide) rfl (fun ls hl => ?_)
  have hl : lv_has ls 7 [(5, .int (p1.1)), (0, .ref b), (1, .ref (ad 0)), (2, .ref (adM 0)), (3, .ref o), (4, .int (nI i))] := hl
  refine lv_aload_n hx hb d_law_1252 rfl (lv_at hl 3 rfl) ?_
  refine lv_aload_n hx hb d_law_1253 rfl (lv_at hl 1 rfl) ?_
  refine lv_iload hx hb d_law_1254 (lv_at hl 5 rfl) ?_
  refine lv_iconst (v := 1) hx hb d_law_1256 (by decide) ?_
  refine lv_iadd hx hb d_law_1257 ?_
  refine sc_ld (j := i + 1) X hXs hbl hbA hS (ni_1 i) (by omega) hL d_law_1258 ?_
  refine lv_aload_n hx hb d_law_1259 rfl (lv_at hl 1 rfl) ?_
  refine lv_iload hx hb d_law_1260 (lv_at hl 5 rfl) ?_
  refine lv_iconst (v := 2) hx hb d_law_1262 (by decide) ?_
  refine lv_iadd hx hb d_law_1263 ?_
  refine sc_ld (j := i + 2) X hXs hbl hbA hS (ni_2 i) (by omega) hL d_law_1264 ?_
  obtain ⟨b2, e1, h⟩ := bd_some h
  refine fr_i (pre := wF ad ca p1.2.2) (w := wM adM caM gM) (post := [(o, .inl (cO, (1, .inr (.inl p1.2.1))))]) (X.on (vk_l (vk_r X.2.2.2.2.2.2.2.1))) (fg_runV (As := [.int (xs (i + 1)), .int (xs (i + 2))]) (X.on (vk_l (vk_r X.2.2.2.2.2.2.2.1))) (m_Mod_look e1 _) (vp_mid (pre := wF ad ca p1.2.2) (w := wM adM caM gM) (post := [(o, .inl (cO, (1, .inr (.inl p1.2.1))))]) hP) (vd_mid (pre := wF ad ca p1.2.2) (w := wM adM caM gM) (post := [(o, .inl (cO, (1, .inr (.inl p1.2.1))))]) hD) kv_LawM_162 ⟨⟨Nat.le_of_ble_eq_true rfl, Nat.le_of_ble_eq_true rfl⟩, by omega, by omega⟩ 0 rfl rfl rfl hl.1 rfl (Nat.le_of_ble_eq_true rfl) d_law_1265) hP hD hS (fun H locs hP hD hS => ?_)
  have hP : va_P D cls (wL ad ca adM caM o cO p1.2.2 b2.2 p1.2.1) H := hP
  have hD : va_D A (wL ad ca adM caM o cO p1.2.2 b2.2 p1.2.1) := hD
  refine lv_istore hx hb d_law_1268 hl (by decide) rfl (fun ls hl => ?_)
  have hl : lv_has ls 7 [(6, .int (b2.1)), (5, .int (p1.1)), (0, .ref b), (1, .ref (ad 0)), (2, .ref (adM 0)), (3, .ref o), (4, .int (nI i))] := hl
  refine lv_aload_n hx hb d_law_1270 rfl (lv_at hl 4 rfl) ?_
  obtain ⟨b3, e1, h⟩ := bd_some h
  refine fr_i (pre := wF ad ca p1.2.2) (w := wM adM caM b2.2) (post := [(o, .inl (cO, (1, .inr (.inl p1.2.1))))]) (X.on (vk_l (vk_r X.2.2.2.2.2.2.2.1))) (fg_runV (As := []) (X.on (vk_l (vk_r X.2.2.2.2.2.2.2.1))) (m_Mod_thrown e1 _) (vp_mid (pre := wF ad ca p1.2.2) (w := wM adM caM b2.2) (post := [(o, .inl (cO, (1, .inr (.inl p1.2.1))))]) hP) (vd_mid (pre := wF ad ca p1.2.2) (w := wM adM caM b2.2) (post := [(o, .inl (cO, (1, .inr (.inl p1.2.1))))]) hD) kv_LawM_102 ⟨⟨Nat.le_of_ble_eq_true rfl, Nat.le_of_ble_eq_true rfl⟩, by omega, by omega⟩ 0 rfl rfl rfl hl.1 rfl (Nat.le_of_ble_eq_true rfl) d_law_1271) hP hD hS (fun H locs hP hD hS => ?_)
  have hP : va_P D cls (wL ad ca adM caM o cO p1.2.2 b2.2 p1.2.1) H := hP
  have hD : va_D A (wL ad ca adM caM o cO p1.2.2 b2.2 p1.2.1) := hD
  refine lv_iload hx hb d_law_1274 (lv_at hl 1 rfl) ?_
  refine lv_icmp_eq (tgt := 1281) hx hb d_law_1276 (by decide) (fun hc => ?_) (fun hc => ?_)
  · have h := if_t hc h
    refine lv_iload hx hb d_law_1281 (lv_at hl 1 rfl) ?_
    refine lv_if_ne (tgt := 1298) hx hb d_law_1283 (by decide) (fun hc => ?_) (fun hc => ?_)
    · have h := if_f hc h
      refine lv_goto (tgt := 1529) hx hb d_law_1298 (by decide) ?_
      cases h
      exact kk _ _ _ hP hD hS (lv_sub hl [2, 3, 4, 5, 6] rfl)
    · have h := if_t hc h
      refine lv_aload_n hx hb d_law_1286 rfl (lv_at hl 5 rfl) ?_
      refine lv_iconst (v := 0) hx hb d_law_1287 (by decide) ?_
      refine lw_lald X hP d_law_1288 ?_
      refine lv_iload hx hb d_law_1289 (lv_at hl 0 rfl) ?_
      refine lv_i2l (v := (b2.1).toInt64) hx hb d_law_1291 rfl ?_
      refine W.lcmp hx hb d_law_1292 ?_
      refine lv_if_eq (tgt := 1298) hx hb d_law_1293 (by decide) (fun hc => ?_) (fun hc => ?_)
      · have h := if_t hc h
        refine lv_goto (tgt := 1529) hx hb d_law_1298 (by decide) ?_
        cases h
        exact kk _ _ _ hP hD hS (lv_sub hl [2, 3, 4, 5, 6] rfl)
      · have h := if_f hc h
        cases h
  · have h := if_f hc h
    cases h
set_option maxHeartbeats 4000000 in
set_option maxRecDepth 100000 in
theorem lc_18 {p : Program} {l : Launch} {e : Env} {s : State} {m : MethodId} {below : List Frame} {meth : Method} {c : Code} {D : va_G} {ad : Nat → Nat} {ca : Nat → ClassId} {adM : Nat → Nat} {caM : Nat → ClassId} {o : Nat} {cO : ClassId} {A : Nat → Prop} {FU b L i : Nat} {xs : Nat → Int32} {Q : State → Prop} {cells slots : Nat} (X : FX p s m meth c code 7 ret "FlashFilesLaw" D (tyL ca caM cO) A) (hZ : ZS A s) (hN : NC s) (htr : l.stackTraces = false) (hXs : va_X b L xs s s.heap) (hbl : b < s.heap.size) (hbA : ¬ A b) (hL : L ≤ 3072) (hi : i + 6 ≤ L) (hcc : cells + 1 ≤ room_1.cells) (hss : slots + 6 ≤ room_1.slots) {g gM : St} {f : Nat → Int64} {r : (Nat → Int64) × St × St} {H : Heap} {locs : List Loc} {ls : Array Slot} (hP : va_P D cls (wL ad ca adM caM o cO g gM f) H) (hD : va_D A (wL ad ca adM caM o cO g gM f)) (hS : va_S A s.heap H locs) (hl : lv_has ls 7 [(0, .ref b), (1, .ref (ad 0)), (2, .ref (adM 0)), (3, .ref o), (4, .int (nI i))]) (h : lawC18 FU xs i f g gM = some r)
    (kk : ∀ (H : Heap) (locs : List Loc) (ls : Array Slot), va_P D cls (wL ad ca adM caM o cO r.2.1 r.2.2 r.1) H → va_D A (wL ad ca adM caM o cO r.2.1 r.2.2 r.1) → va_S A s.heap H locs → lv_has ls 7 [(0, .ref b), (1, .ref (ad 0)), (2, .ref (adM 0)), (3, .ref o), (4, .int (nI i))] → W p l e room_1 s m #[Value.ref b] below meth c H locs (cells + 1) (slots + 6) Q (F0 m 1529 ls [])) : W p l e room_1 s m #[Value.ref b] below meth c H locs cells slots Q (F0 m 1301 ls []) := by
  have hx := X.1
  have hb := X.2.1
  unfold lawC18 at h
  refine lv_aload_n hx hb d_law_1301 rfl (lv_at hl 1 rfl) ?_
  refine lv_aload_n hx hb d_law_1302 rfl (lv_at hl 0 rfl) ?_
  refine lv_iload hx hb d_law_1303 (lv_at hl 4 rfl) ?_
  refine lv_iconst (v := 1) hx hb d_law_1305 (by decide) ?_
  refine lv_iadd hx hb d_law_1306 ?_
  refine sc_ld (j := i + 1) X hXs hbl hbA hS (ni_1 i) (by omega) hL d_law_1307 ?_
  refine lv_aload_n hx hb d_law_1308 rfl (lv_at hl 3 rfl) ?_
  obtain ⟨p1, e1, h⟩ := bd_some h
  refine hs_S (As := [.ref (ad 0), .int (xs (i + 1)), .ref o]) X (h_count e1) hZ hN htr hP hD hS kw_163 ⟨⟨Nat.le_of_ble_eq_true rfl, Nat.le_of_ble_eq_true rfl⟩, hcc, hss⟩ rfl hl.1 rfl (Nat.le_of_ble_eq_true rfl) d_law_1309 (fun H locs hP hD hS => ?_)
  have hP : va_P D cls (wL ad ca adM caM o cO p1.2.2 gM p1.2.1) H := hP
  have hD : va_D A (wL ad ca adM caM o cO p1.2.2 gM p1.2.1) := hD
  refine lv_istore hx hb d_law_1312 hl (by decide) rfl (fun ls hl => ?_)
  have hl : lv_has ls 7 [(5, .int (p1.1)), (0, .ref b), (1, .ref (ad 0)), (2, .ref (adM 0)), (3, .ref o), (4, .int (nI i))] := hl
  refine lv_aload_n hx hb d_law_1314 rfl (lv_at hl 3 rfl) ?_
  refine lv_aload_n hx hb d_law_1315 rfl (lv_at hl 1 rfl) ?_
  refine lv_iload hx hb d_law_1316 (lv_at hl 5 rfl) ?_
  refine lv_iconst (v := 1) hx hb d_law_1318 (by decide) ?_
  refine lv_iadd hx hb d_law_1319 ?_
  refine sc_ld (j := i + 1) X hXs hbl hbA hS (ni_1 i) (by omega) hL d_law_1320 ?_
  obtain ⟨b2, e1, h⟩ := bd_some h
  refine fr_i (pre := wF ad ca p1.2.2) (w := wM adM caM gM) (post := [(o, .inl (cO, (1, .inr (.inl p1.2.1))))]) (X.on (vk_l (vk_r X.2.2.2.2.2.2.2.1))) (fg_runV (As := [.int (xs (i + 1))]) (X.on (vk_l (vk_r X.2.2.2.2.2.2.2.1))) (m_Mod_count e1 _) (vp_mid (pre := wF ad ca p1.2.2) (w := wM adM caM gM) (post := [(o, .inl (cO, (1, .inr (.inl p1.2.1))))]) hP) (vd_mid (pre := wF ad ca p1.2.2) (w := wM adM caM gM) (post := [(o, .inl (cO, (1, .inr (.inl p1.2.1))))]) hD) kv_LawM_165 ⟨⟨Nat.le_of_ble_eq_true rfl, Nat.le_of_ble_eq_true rfl⟩, by omega, by omega⟩ 0 rfl rfl rfl hl.1 rfl (Nat.le_of_ble_eq_true rfl) d_law_1321) hP hD hS (fun H locs hP hD hS => ?_)
  have hP : va_P D cls (wL ad ca adM caM o cO p1.2.2 b2.2 p1.2.1) H := hP
  have hD : va_D A (wL ad ca adM caM o cO p1.2.2 b2.2 p1.2.1) := hD
  refine lv_istore hx hb d_law_1324 hl (by decide) rfl (fun ls hl => ?_)
  have hl : lv_has ls 7 [(6, .int (b2.1)), (5, .int (p1.1)), (0, .ref b), (1, .ref (ad 0)), (2, .ref (adM 0)), (3, .ref o), (4, .int (nI i))] := hl
  refine lv_aload_n hx hb d_law_1326 rfl (lv_at hl 4 rfl) ?_
  obtain ⟨b3, e1, h⟩ := bd_some h
  refine fr_i (pre := wF ad ca p1.2.2) (w := wM adM caM b2.2) (post := [(o, .inl (cO, (1, .inr (.inl p1.2.1))))]) (X.on (vk_l (vk_r X.2.2.2.2.2.2.2.1))) (fg_runV (As := []) (X.on (vk_l (vk_r X.2.2.2.2.2.2.2.1))) (m_Mod_thrown e1 _) (vp_mid (pre := wF ad ca p1.2.2) (w := wM adM caM b2.2) (post := [(o, .inl (cO, (1, .inr (.inl p1.2.1))))]) hP) (vd_mid (pre := wF ad ca p1.2.2) (w := wM adM caM b2.2) (post := [(o, .inl (cO, (1, .inr (.inl p1.2.1))))]) hD) kv_LawM_102 ⟨⟨Nat.le_of_ble_eq_true rfl, Nat.le_of_ble_eq_true rfl⟩, by omega, by omega⟩ 0 rfl rfl rfl hl.1 rfl (Nat.le_of_ble_eq_true rfl) d_law_1327) hP hD hS (fun H locs hP hD hS => ?_)
  have hP : va_P D cls (wL ad ca adM caM o cO p1.2.2 b2.2 p1.2.1) H := hP
  have hD : va_D A (wL ad ca adM caM o cO p1.2.2 b2.2 p1.2.1) := hD
  refine lv_iload hx hb d_law_1330 (lv_at hl 1 rfl) ?_
  refine lv_icmp_eq (tgt := 1337) hx hb d_law_1332 (by decide) (fun hc => ?_) (fun hc => ?_)
  · have h := if_t hc h
    refine lv_iload hx hb d_law_1337 (lv_at hl 1 rfl) ?_
    refine lv_if_ne (tgt := 1354) hx hb d_law_1339 (by decide) (fun hc => ?_) (fun hc => ?_)
    · have h := if_f hc h
      refine lv_goto (tgt := 1529) hx hb d_law_1354 (by decide) ?_
      cases h
      exact kk _ _ _ hP hD hS (lv_sub hl [2, 3, 4, 5, 6] rfl)
    · have h := if_t hc h
      refine lv_aload_n hx hb d_law_1342 rfl (lv_at hl 5 rfl) ?_
      refine lv_iconst (v := 0) hx hb d_law_1343 (by decide) ?_
      refine lw_lald X hP d_law_1344 ?_
      refine lv_iload hx hb d_law_1345 (lv_at hl 0 rfl) ?_
      refine lv_i2l (v := (b2.1).toInt64) hx hb d_law_1347 rfl ?_
      refine W.lcmp hx hb d_law_1348 ?_
      refine lv_if_eq (tgt := 1354) hx hb d_law_1349 (by decide) (fun hc => ?_) (fun hc => ?_)
      · have h := if_t hc h
        refine lv_goto (tgt := 1529) hx hb d_law_1354 (by decide) ?_
        cases h
        exact kk _ _ _ hP hD hS (lv_sub hl [2, 3, 4, 5, 6] rfl)
      · have h := if_f hc h
        cases h
  · have h := if_f hc h
    cases h
set_option maxHeartbeats 4000000 in
set_option maxRecDepth 100000 in
theorem lc_19 {p : Program} {l : Launch} {e : Env} {s : State} {m : MethodId} {below : List Frame} {meth : Method} {c : Code} {D : va_G} {ad : Nat → Nat} {ca : Nat → ClassId} {adM : Nat → Nat} {caM : Nat → ClassId} {o : Nat} {cO : ClassId} {A : Nat → Prop} {FU b L i : Nat} {xs : Nat → Int32} {Q : State → Prop} {cells slots : Nat} (X : FX p s m meth c code 7 ret "FlashFilesLaw" D (tyL ca caM cO) A) (hZ : ZS A s) (hN : NC s) (htr : l.stackTraces = false) (hXs : va_X b L xs s s.heap) (hbl : b < s.heap.size) (hbA : ¬ A b) (hL : L ≤ 3072) (hi : i + 6 ≤ L) (hcc : cells + 1 ≤ room_1.cells) (hss : slots + 6 ≤ room_1.slots) {g gM : St} {f : Nat → Int64} {r : (Nat → Int64) × St × St} {H : Heap} {locs : List Loc} {ls : Array Slot} (hP : va_P D cls (wL ad ca adM caM o cO g gM f) H) (hD : va_D A (wL ad ca adM caM o cO g gM f)) (hS : va_S A s.heap H locs) (hl : lv_has ls 7 [(0, .ref b), (1, .ref (ad 0)), (2, .ref (adM 0)), (3, .ref o), (4, .int (nI i))]) (h : lawC19 FU xs i f g gM = some r)
    (kk : ∀ (H : Heap) (locs : List Loc) (ls : Array Slot), va_P D cls (wL ad ca adM caM o cO r.2.1 r.2.2 r.1) H → va_D A (wL ad ca adM caM o cO r.2.1 r.2.2 r.1) → va_S A s.heap H locs → lv_has ls 7 [(0, .ref b), (1, .ref (ad 0)), (2, .ref (adM 0)), (3, .ref o), (4, .int (nI i))] → W p l e room_1 s m #[Value.ref b] below meth c H locs (cells + 1) (slots + 6) Q (F0 m 1529 ls [])) : W p l e room_1 s m #[Value.ref b] below meth c H locs cells slots Q (F0 m 1357 ls []) := by
  have hx := X.1
  have hb := X.2.1
  unfold lawC19 at h
  refine lv_aload_n hx hb d_law_1357 rfl (lv_at hl 1 rfl) ?_
  obtain ⟨p1, e1, h⟩ := bd_some h
  refine hs_S (As := [.ref (ad 0)]) X (h_power e1) hZ hN htr hP hD hS kw_166 ⟨⟨Nat.le_of_ble_eq_true rfl, Nat.le_of_ble_eq_true rfl⟩, hcc, hss⟩ rfl hl.1 rfl (Nat.le_of_ble_eq_true rfl) d_law_1358 (fun H locs hP hD hS => ?_)
  have hP : va_P D cls (wL ad ca adM caM o cO p1.2.2 gM p1.2.1) H := hP
  have hD : va_D A (wL ad ca adM caM o cO p1.2.2 gM p1.2.1) := hD
  refine lv_istore hx hb d_law_1361 hl (by decide) rfl (fun ls hl => ?_)
  have hl : lv_has ls 7 [(5, .int (p1.1)), (0, .ref b), (1, .ref (ad 0)), (2, .ref (adM 0)), (3, .ref o), (4, .int (nI i))] := hl
  refine lv_aload_n hx hb d_law_1363 rfl (lv_at hl 3 rfl) ?_
  obtain ⟨b2, e1, h⟩ := bd_some h
  refine fr_v (pre := wF ad ca p1.2.2) (w := wM adM caM gM) (post := [(o, .inl (cO, (1, .inr (.inl p1.2.1))))]) (X.on (vk_l (vk_r X.2.2.2.2.2.2.2.1))) (fg_runV (As := []) (X.on (vk_l (vk_r X.2.2.2.2.2.2.2.1))) (m_Mod_power e1 _) (vp_mid (pre := wF ad ca p1.2.2) (w := wM adM caM gM) (post := [(o, .inl (cO, (1, .inr (.inl p1.2.1))))]) hP) (vd_mid (pre := wF ad ca p1.2.2) (w := wM adM caM gM) (post := [(o, .inl (cO, (1, .inr (.inl p1.2.1))))]) hD) kv_LawM_169 ⟨⟨Nat.le_of_ble_eq_true rfl, Nat.le_of_ble_eq_true rfl⟩, by omega, by omega⟩ 0 rfl rfl rfl hl.1 rfl (Nat.le_of_ble_eq_true rfl) d_law_1364) hP hD hS (fun H locs hP hD hS => ?_)
  have hP : va_P D cls (wL ad ca adM caM o cO p1.2.2 b2 p1.2.1) H := hP
  have hD : va_D A (wL ad ca adM caM o cO p1.2.2 b2 p1.2.1) := hD
  refine lv_aload_n hx hb d_law_1367 rfl (lv_at hl 3 rfl) ?_
  obtain ⟨b3, e1, h⟩ := bd_some h
  refine fr_i (pre := wF ad ca p1.2.2) (w := wM adM caM b2) (post := [(o, .inl (cO, (1, .inr (.inl p1.2.1))))]) (X.on (vk_l (vk_r X.2.2.2.2.2.2.2.1))) (fg_runV (As := []) (X.on (vk_l (vk_r X.2.2.2.2.2.2.2.1))) (m_Mod_thrown e1 _) (vp_mid (pre := wF ad ca p1.2.2) (w := wM adM caM b2) (post := [(o, .inl (cO, (1, .inr (.inl p1.2.1))))]) hP) (vd_mid (pre := wF ad ca p1.2.2) (w := wM adM caM b2) (post := [(o, .inl (cO, (1, .inr (.inl p1.2.1))))]) hD) kv_LawM_102 ⟨⟨Nat.le_of_ble_eq_true rfl, Nat.le_of_ble_eq_true rfl⟩, by omega, by omega⟩ 0 rfl rfl rfl hl.1 rfl (Nat.le_of_ble_eq_true rfl) d_law_1368) hP hD hS (fun H locs hP hD hS => ?_)
  have hP : va_P D cls (wL ad ca adM caM o cO p1.2.2 b2 p1.2.1) H := hP
  have hD : va_D A (wL ad ca adM caM o cO p1.2.2 b2 p1.2.1) := hD
  refine lv_iload hx hb d_law_1371 (lv_at hl 0 rfl) ?_
  refine lv_icmp_eq (tgt := 1378) hx hb d_law_1373 (by decide) (fun hc => ?_) (fun hc => ?_)
  · have h := if_t hc h
    refine lv_goto (tgt := 1529) hx hb d_law_1378 (by decide) ?_
    cases h
    exact kk _ _ _ hP hD hS (lv_sub hl [1, 2, 3, 4, 5] rfl)
  · have h := if_f hc h
    cases h
set_option maxHeartbeats 4000000 in
set_option maxRecDepth 100000 in
theorem lc_20 {p : Program} {l : Launch} {e : Env} {s : State} {m : MethodId} {below : List Frame} {meth : Method} {c : Code} {D : va_G} {ad : Nat → Nat} {ca : Nat → ClassId} {adM : Nat → Nat} {caM : Nat → ClassId} {o : Nat} {cO : ClassId} {A : Nat → Prop} {FU b L i : Nat} {xs : Nat → Int32} {Q : State → Prop} {cells slots : Nat} (X : FX p s m meth c code 7 ret "FlashFilesLaw" D (tyL ca caM cO) A) (hZ : ZS A s) (hN : NC s) (htr : l.stackTraces = false) (hXs : va_X b L xs s s.heap) (hbl : b < s.heap.size) (hbA : ¬ A b) (hL : L ≤ 3072) (hi : i + 6 ≤ L) (hcc : cells + 1 ≤ room_1.cells) (hss : slots + 6 ≤ room_1.slots) {g gM : St} {f : Nat → Int64} {r : (Nat → Int64) × St × St} {H : Heap} {locs : List Loc} {ls : Array Slot} (hP : va_P D cls (wL ad ca adM caM o cO g gM f) H) (hD : va_D A (wL ad ca adM caM o cO g gM f)) (hS : va_S A s.heap H locs) (hl : lv_has ls 7 [(0, .ref b), (1, .ref (ad 0)), (2, .ref (adM 0)), (3, .ref o), (4, .int (nI i))]) (h : lawC20 FU xs i f g gM = some r)
    (kk : ∀ (H : Heap) (locs : List Loc) (ls : Array Slot), va_P D cls (wL ad ca adM caM o cO r.2.1 r.2.2 r.1) H → va_D A (wL ad ca adM caM o cO r.2.1 r.2.2 r.1) → va_S A s.heap H locs → lv_has ls 7 [(0, .ref b), (1, .ref (ad 0)), (2, .ref (adM 0)), (3, .ref o), (4, .int (nI i))] → W p l e room_1 s m #[Value.ref b] below meth c H locs (cells + 1) (slots + 6) Q (F0 m 1529 ls [])) : W p l e room_1 s m #[Value.ref b] below meth c H locs cells slots Q (F0 m 1381 ls []) := by
  have hx := X.1
  have hb := X.2.1
  unfold lawC20 at h
  refine lv_aload_n hx hb d_law_1381 rfl (lv_at hl 1 rfl) ?_
  refine lv_aload_n hx hb d_law_1382 rfl (lv_at hl 0 rfl) ?_
  refine lv_iload hx hb d_law_1383 (lv_at hl 4 rfl) ?_
  refine lv_iconst (v := 1) hx hb d_law_1385 (by decide) ?_
  refine lv_iadd hx hb d_law_1386 ?_
  refine sc_ld (j := i + 1) X hXs hbl hbA hS (ni_1 i) (by omega) hL d_law_1387 ?_
  obtain ⟨p1, e1, h⟩ := bd_some h
  refine hs_S (As := [.ref (ad 0), .int (xs (i + 1))]) X (h_cut e1) hZ hN htr hP hD hS kw_170 ⟨⟨Nat.le_of_ble_eq_true rfl, Nat.le_of_ble_eq_true rfl⟩, hcc, hss⟩ rfl hl.1 rfl (Nat.le_of_ble_eq_true rfl) d_law_1388 (fun H locs hP hD hS => ?_)
  have hP : va_P D cls (wL ad ca adM caM o cO p1.2.2 gM p1.2.1) H := hP
  have hD : va_D A (wL ad ca adM caM o cO p1.2.2 gM p1.2.1) := hD
  refine lv_istore hx hb d_law_1391 hl (by decide) rfl (fun ls hl => ?_)
  have hl : lv_has ls 7 [(5, .int (p1.1)), (0, .ref b), (1, .ref (ad 0)), (2, .ref (adM 0)), (3, .ref o), (4, .int (nI i))] := hl
  refine lv_aload_n hx hb d_law_1393 rfl (lv_at hl 3 rfl) ?_
  refine lv_aload_n hx hb d_law_1394 rfl (lv_at hl 1 rfl) ?_
  refine lv_iload hx hb d_law_1395 (lv_at hl 5 rfl) ?_
  refine lv_iconst (v := 1) hx hb d_law_1397 (by decide) ?_
  refine lv_iadd hx hb d_law_1398 ?_
  refine sc_ld (j := i + 1) X hXs hbl hbA hS (ni_1 i) (by omega) hL d_law_1399 ?_
  obtain ⟨b2, e1, h⟩ := bd_some h
  refine fr_v (pre := wF ad ca p1.2.2) (w := wM adM caM gM) (post := [(o, .inl (cO, (1, .inr (.inl p1.2.1))))]) (X.on (vk_l (vk_r X.2.2.2.2.2.2.2.1))) (fg_runV (As := [.int (xs (i + 1))]) (X.on (vk_l (vk_r X.2.2.2.2.2.2.2.1))) (m_Mod_cut e1 _) (vp_mid (pre := wF ad ca p1.2.2) (w := wM adM caM gM) (post := [(o, .inl (cO, (1, .inr (.inl p1.2.1))))]) hP) (vd_mid (pre := wF ad ca p1.2.2) (w := wM adM caM gM) (post := [(o, .inl (cO, (1, .inr (.inl p1.2.1))))]) hD) kv_LawM_173 ⟨⟨Nat.le_of_ble_eq_true rfl, Nat.le_of_ble_eq_true rfl⟩, by omega, by omega⟩ 0 rfl rfl rfl hl.1 rfl (Nat.le_of_ble_eq_true rfl) d_law_1400) hP hD hS (fun H locs hP hD hS => ?_)
  have hP : va_P D cls (wL ad ca adM caM o cO p1.2.2 b2 p1.2.1) H := hP
  have hD : va_D A (wL ad ca adM caM o cO p1.2.2 b2 p1.2.1) := hD
  refine lv_aload_n hx hb d_law_1403 rfl (lv_at hl 3 rfl) ?_
  obtain ⟨b3, e1, h⟩ := bd_some h
  refine fr_i (pre := wF ad ca p1.2.2) (w := wM adM caM b2) (post := [(o, .inl (cO, (1, .inr (.inl p1.2.1))))]) (X.on (vk_l (vk_r X.2.2.2.2.2.2.2.1))) (fg_runV (As := []) (X.on (vk_l (vk_r X.2.2.2.2.2.2.2.1))) (m_Mod_thrown e1 _) (vp_mid (pre := wF ad ca p1.2.2) (w := wM adM caM b2) (post := [(o, .inl (cO, (1, .inr (.inl p1.2.1))))]) hP) (vd_mid (pre := wF ad ca p1.2.2) (w := wM adM caM b2) (post := [(o, .inl (cO, (1, .inr (.inl p1.2.1))))]) hD) kv_LawM_102 ⟨⟨Nat.le_of_ble_eq_true rfl, Nat.le_of_ble_eq_true rfl⟩, by omega, by omega⟩ 0 rfl rfl rfl hl.1 rfl (Nat.le_of_ble_eq_true rfl) d_law_1404) hP hD hS (fun H locs hP hD hS => ?_)
  have hP : va_P D cls (wL ad ca adM caM o cO p1.2.2 b2 p1.2.1) H := hP
  have hD : va_D A (wL ad ca adM caM o cO p1.2.2 b2 p1.2.1) := hD
  refine lv_iload hx hb d_law_1407 (lv_at hl 0 rfl) ?_
  refine lv_icmp_eq (tgt := 1414) hx hb d_law_1409 (by decide) (fun hc => ?_) (fun hc => ?_)
  · have h := if_t hc h
    refine lv_goto (tgt := 1529) hx hb d_law_1414 (by decide) ?_
    cases h
    exact kk _ _ _ hP hD hS (lv_sub hl [1, 2, 3, 4, 5] rfl)
  · have h := if_f hc h
    cases h
set_option maxHeartbeats 4000000 in
set_option maxRecDepth 100000 in
theorem lc_21 {p : Program} {l : Launch} {e : Env} {s : State} {m : MethodId} {below : List Frame} {meth : Method} {c : Code} {D : va_G} {ad : Nat → Nat} {ca : Nat → ClassId} {adM : Nat → Nat} {caM : Nat → ClassId} {o : Nat} {cO : ClassId} {A : Nat → Prop} {FU b L i : Nat} {xs : Nat → Int32} {Q : State → Prop} {cells slots : Nat} (X : FX p s m meth c code 7 ret "FlashFilesLaw" D (tyL ca caM cO) A) (hZ : ZS A s) (hN : NC s) (htr : l.stackTraces = false) (hXs : va_X b L xs s s.heap) (hbl : b < s.heap.size) (hbA : ¬ A b) (hL : L ≤ 3072) (hi : i + 6 ≤ L) (hcc : cells + 1 ≤ room_1.cells) (hss : slots + 6 ≤ room_1.slots) {g gM : St} {f : Nat → Int64} {r : (Nat → Int64) × St × St} {H : Heap} {locs : List Loc} {ls : Array Slot} (hP : va_P D cls (wL ad ca adM caM o cO g gM f) H) (hD : va_D A (wL ad ca adM caM o cO g gM f)) (hS : va_S A s.heap H locs) (hl : lv_has ls 7 [(0, .ref b), (1, .ref (ad 0)), (2, .ref (adM 0)), (3, .ref o), (4, .int (nI i))]) (h : lawC21 FU xs i f g gM = some r)
    (kk : ∀ (H : Heap) (locs : List Loc) (ls : Array Slot), va_P D cls (wL ad ca adM caM o cO r.2.1 r.2.2 r.1) H → va_D A (wL ad ca adM caM o cO r.2.1 r.2.2 r.1) → va_S A s.heap H locs → lv_has ls 7 [(0, .ref b), (1, .ref (ad 0)), (2, .ref (adM 0)), (3, .ref o), (4, .int (nI i))] → W p l e room_1 s m #[Value.ref b] below meth c H locs (cells + 1) (slots + 6) Q (F0 m 1529 ls [])) : W p l e room_1 s m #[Value.ref b] below meth c H locs cells slots Q (F0 m 1417 ls []) := by
  have hx := X.1
  have hb := X.2.1
  unfold lawC21 at h
  refine lv_aload_n hx hb d_law_1417 rfl (lv_at hl 1 rfl) ?_
  refine lv_aload_n hx hb d_law_1418 rfl (lv_at hl 3 rfl) ?_
  obtain ⟨p1, e1, h⟩ := bd_some h
  refine hs_S (As := [.ref (ad 0), .ref o]) X (h_mount e1) hZ hN htr hP hD hS kw_174 ⟨⟨Nat.le_of_ble_eq_true rfl, Nat.le_of_ble_eq_true rfl⟩, hcc, hss⟩ rfl hl.1 rfl (Nat.le_of_ble_eq_true rfl) d_law_1419 (fun H locs hP hD hS => ?_)
  have hP : va_P D cls (wL ad ca adM caM o cO p1.2.2 gM p1.2.1) H := hP
  have hD : va_D A (wL ad ca adM caM o cO p1.2.2 gM p1.2.1) := hD
  refine lv_istore hx hb d_law_1422 hl (by decide) rfl (fun ls hl => ?_)
  have hl : lv_has ls 7 [(5, .int (p1.1)), (0, .ref b), (1, .ref (ad 0)), (2, .ref (adM 0)), (3, .ref o), (4, .int (nI i))] := hl
  refine lv_aload_n hx hb d_law_1424 rfl (lv_at hl 3 rfl) ?_
  obtain ⟨b2, e1, h⟩ := bd_some h
  refine fr_i (pre := wF ad ca p1.2.2) (w := wM adM caM gM) (post := [(o, .inl (cO, (1, .inr (.inl p1.2.1))))]) (X.on (vk_l (vk_r X.2.2.2.2.2.2.2.1))) (fg_runV (As := []) (X.on (vk_l (vk_r X.2.2.2.2.2.2.2.1))) (m_Mod_mount e1 _) (vp_mid (pre := wF ad ca p1.2.2) (w := wM adM caM gM) (post := [(o, .inl (cO, (1, .inr (.inl p1.2.1))))]) hP) (vd_mid (pre := wF ad ca p1.2.2) (w := wM adM caM gM) (post := [(o, .inl (cO, (1, .inr (.inl p1.2.1))))]) hD) kv_LawM_176 ⟨⟨Nat.le_of_ble_eq_true rfl, Nat.le_of_ble_eq_true rfl⟩, by omega, by omega⟩ 0 rfl rfl rfl hl.1 rfl (Nat.le_of_ble_eq_true rfl) d_law_1425) hP hD hS (fun H locs hP hD hS => ?_)
  have hP : va_P D cls (wL ad ca adM caM o cO p1.2.2 b2.2 p1.2.1) H := hP
  have hD : va_D A (wL ad ca adM caM o cO p1.2.2 b2.2 p1.2.1) := hD
  refine lv_istore hx hb d_law_1428 hl (by decide) rfl (fun ls hl => ?_)
  have hl : lv_has ls 7 [(6, .int (b2.1)), (5, .int (p1.1)), (0, .ref b), (1, .ref (ad 0)), (2, .ref (adM 0)), (3, .ref o), (4, .int (nI i))] := hl
  refine lv_aload_n hx hb d_law_1430 rfl (lv_at hl 4 rfl) ?_
  obtain ⟨b3, e1, h⟩ := bd_some h
  refine fr_i (pre := wF ad ca p1.2.2) (w := wM adM caM b2.2) (post := [(o, .inl (cO, (1, .inr (.inl p1.2.1))))]) (X.on (vk_l (vk_r X.2.2.2.2.2.2.2.1))) (fg_runV (As := []) (X.on (vk_l (vk_r X.2.2.2.2.2.2.2.1))) (m_Mod_thrown e1 _) (vp_mid (pre := wF ad ca p1.2.2) (w := wM adM caM b2.2) (post := [(o, .inl (cO, (1, .inr (.inl p1.2.1))))]) hP) (vd_mid (pre := wF ad ca p1.2.2) (w := wM adM caM b2.2) (post := [(o, .inl (cO, (1, .inr (.inl p1.2.1))))]) hD) kv_LawM_102 ⟨⟨Nat.le_of_ble_eq_true rfl, Nat.le_of_ble_eq_true rfl⟩, by omega, by omega⟩ 0 rfl rfl rfl hl.1 rfl (Nat.le_of_ble_eq_true rfl) d_law_1431) hP hD hS (fun H locs hP hD hS => ?_)
  have hP : va_P D cls (wL ad ca adM caM o cO p1.2.2 b2.2 p1.2.1) H := hP
  have hD : va_D A (wL ad ca adM caM o cO p1.2.2 b2.2 p1.2.1) := hD
  refine lv_iload hx hb d_law_1434 (lv_at hl 1 rfl) ?_
  refine lv_icmp_eq (tgt := 1441) hx hb d_law_1436 (by decide) (fun hc => ?_) (fun hc => ?_)
  · have h := if_t hc h
    refine lv_iload hx hb d_law_1441 (lv_at hl 1 rfl) ?_
    refine lv_if_ne (tgt := 1458) hx hb d_law_1443 (by decide) (fun hc => ?_) (fun hc => ?_)
    · have h := if_f hc h
      refine lv_goto (tgt := 1529) hx hb d_law_1458 (by decide) ?_
      cases h
      exact kk _ _ _ hP hD hS (lv_sub hl [2, 3, 4, 5, 6] rfl)
    · have h := if_t hc h
      refine lv_aload_n hx hb d_law_1446 rfl (lv_at hl 5 rfl) ?_
      refine lv_iconst (v := 0) hx hb d_law_1447 (by decide) ?_
      refine lw_lald X hP d_law_1448 ?_
      refine lv_iload hx hb d_law_1449 (lv_at hl 0 rfl) ?_
      refine lv_i2l (v := (b2.1).toInt64) hx hb d_law_1451 rfl ?_
      refine W.lcmp hx hb d_law_1452 ?_
      refine lv_if_eq (tgt := 1458) hx hb d_law_1453 (by decide) (fun hc => ?_) (fun hc => ?_)
      · have h := if_t hc h
        refine lv_goto (tgt := 1529) hx hb d_law_1458 (by decide) ?_
        cases h
        exact kk _ _ _ hP hD hS (lv_sub hl [2, 3, 4, 5, 6] rfl)
      · have h := if_f hc h
        cases h
  · have h := if_f hc h
    cases h
set_option maxHeartbeats 4000000 in
set_option maxRecDepth 100000 in
theorem lc_22 {p : Program} {l : Launch} {e : Env} {s : State} {m : MethodId} {below : List Frame} {meth : Method} {c : Code} {D : va_G} {ad : Nat → Nat} {ca : Nat → ClassId} {adM : Nat → Nat} {caM : Nat → ClassId} {o : Nat} {cO : ClassId} {A : Nat → Prop} {FU b L i : Nat} {xs : Nat → Int32} {Q : State → Prop} {cells slots : Nat} (X : FX p s m meth c code 7 ret "FlashFilesLaw" D (tyL ca caM cO) A) (hZ : ZS A s) (hN : NC s) (htr : l.stackTraces = false) (hXs : va_X b L xs s s.heap) (hbl : b < s.heap.size) (hbA : ¬ A b) (hL : L ≤ 3072) (hi : i + 6 ≤ L) (hcc : cells + 1 ≤ room_1.cells) (hss : slots + 6 ≤ room_1.slots) {g gM : St} {f : Nat → Int64} {r : (Nat → Int64) × St × St} {H : Heap} {locs : List Loc} {ls : Array Slot} (hP : va_P D cls (wL ad ca adM caM o cO g gM f) H) (hD : va_D A (wL ad ca adM caM o cO g gM f)) (hS : va_S A s.heap H locs) (hl : lv_has ls 7 [(0, .ref b), (1, .ref (ad 0)), (2, .ref (adM 0)), (3, .ref o), (4, .int (nI i))]) (h : lawC22 FU xs i f g gM = some r)
    (kk : ∀ (H : Heap) (locs : List Loc) (ls : Array Slot), va_P D cls (wL ad ca adM caM o cO r.2.1 r.2.2 r.1) H → va_D A (wL ad ca adM caM o cO r.2.1 r.2.2 r.1) → va_S A s.heap H locs → lv_has ls 7 [(0, .ref b), (1, .ref (ad 0)), (2, .ref (adM 0)), (3, .ref o), (4, .int (nI i))] → W p l e room_1 s m #[Value.ref b] below meth c H locs (cells + 1) (slots + 6) Q (F0 m 1529 ls [])) : W p l e room_1 s m #[Value.ref b] below meth c H locs cells slots Q (F0 m 1461 ls []) := by
  have hx := X.1
  have hb := X.2.1
  unfold lawC22 at h
  refine lv_aload_n hx hb d_law_1461 rfl (lv_at hl 1 rfl) ?_
  obtain ⟨p1, e1, h⟩ := bd_some h
  refine hs_S (As := [.ref (ad 0)]) X (h_clean e1) hZ hN htr hP hD hS kw_177 ⟨⟨Nat.le_of_ble_eq_true rfl, Nat.le_of_ble_eq_true rfl⟩, hcc, hss⟩ rfl hl.1 rfl (Nat.le_of_ble_eq_true rfl) d_law_1462 (fun H locs hP hD hS => ?_)
  have hP : va_P D cls (wL ad ca adM caM o cO p1.2.2 gM p1.2.1) H := hP
  have hD : va_D A (wL ad ca adM caM o cO p1.2.2 gM p1.2.1) := hD
  refine lv_istore hx hb d_law_1465 hl (by decide) rfl (fun ls hl => ?_)
  have hl : lv_has ls 7 [(5, .int (p1.1)), (0, .ref b), (1, .ref (ad 0)), (2, .ref (adM 0)), (3, .ref o), (4, .int (nI i))] := hl
  refine lv_aload_n hx hb d_law_1467 rfl (lv_at hl 3 rfl) ?_
  obtain ⟨b2, e1, h⟩ := bd_some h
  refine fr_v (pre := wF ad ca p1.2.2) (w := wM adM caM gM) (post := [(o, .inl (cO, (1, .inr (.inl p1.2.1))))]) (X.on (vk_l (vk_r X.2.2.2.2.2.2.2.1))) (fg_runV (As := []) (X.on (vk_l (vk_r X.2.2.2.2.2.2.2.1))) (m_Mod_clean e1 _) (vp_mid (pre := wF ad ca p1.2.2) (w := wM adM caM gM) (post := [(o, .inl (cO, (1, .inr (.inl p1.2.1))))]) hP) (vd_mid (pre := wF ad ca p1.2.2) (w := wM adM caM gM) (post := [(o, .inl (cO, (1, .inr (.inl p1.2.1))))]) hD) kv_LawM_179 ⟨⟨Nat.le_of_ble_eq_true rfl, Nat.le_of_ble_eq_true rfl⟩, by omega, by omega⟩ 0 rfl rfl rfl hl.1 rfl (Nat.le_of_ble_eq_true rfl) d_law_1468) hP hD hS (fun H locs hP hD hS => ?_)
  have hP : va_P D cls (wL ad ca adM caM o cO p1.2.2 b2 p1.2.1) H := hP
  have hD : va_D A (wL ad ca adM caM o cO p1.2.2 b2 p1.2.1) := hD
  refine lv_aload_n hx hb d_law_1471 rfl (lv_at hl 3 rfl) ?_
  obtain ⟨b3, e1, h⟩ := bd_some h
  refine fr_i (pre := wF ad ca p1.2.2) (w := wM adM caM b2) (post := [(o, .inl (cO, (1, .inr (.inl p1.2.1))))]) (X.on (vk_l (vk_r X.2.2.2.2.2.2.2.1))) (fg_runV (As := []) (X.on (vk_l (vk_r X.2.2.2.2.2.2.2.1))) (m_Mod_thrown e1 _) (vp_mid (pre := wF ad ca p1.2.2) (w := wM adM caM b2) (post := [(o, .inl (cO, (1, .inr (.inl p1.2.1))))]) hP) (vd_mid (pre := wF ad ca p1.2.2) (w := wM adM caM b2) (post := [(o, .inl (cO, (1, .inr (.inl p1.2.1))))]) hD) kv_LawM_102 ⟨⟨Nat.le_of_ble_eq_true rfl, Nat.le_of_ble_eq_true rfl⟩, by omega, by omega⟩ 0 rfl rfl rfl hl.1 rfl (Nat.le_of_ble_eq_true rfl) d_law_1472) hP hD hS (fun H locs hP hD hS => ?_)
  have hP : va_P D cls (wL ad ca adM caM o cO p1.2.2 b2 p1.2.1) H := hP
  have hD : va_D A (wL ad ca adM caM o cO p1.2.2 b2 p1.2.1) := hD
  refine lv_iload hx hb d_law_1475 (lv_at hl 0 rfl) ?_
  refine lv_icmp_eq (tgt := 1482) hx hb d_law_1477 (by decide) (fun hc => ?_) (fun hc => ?_)
  · have h := if_t hc h
    refine lv_goto (tgt := 1529) hx hb d_law_1482 (by decide) ?_
    cases h
    exact kk _ _ _ hP hD hS (lv_sub hl [1, 2, 3, 4, 5] rfl)
  · have h := if_f hc h
    cases h
set_option maxHeartbeats 4000000 in
set_option maxRecDepth 100000 in
theorem lc_23 {p : Program} {l : Launch} {e : Env} {s : State} {m : MethodId} {below : List Frame} {meth : Method} {c : Code} {D : va_G} {ad : Nat → Nat} {ca : Nat → ClassId} {adM : Nat → Nat} {caM : Nat → ClassId} {o : Nat} {cO : ClassId} {A : Nat → Prop} {FU b L i : Nat} {xs : Nat → Int32} {Q : State → Prop} {cells slots : Nat} (X : FX p s m meth c code 7 ret "FlashFilesLaw" D (tyL ca caM cO) A) (hZ : ZS A s) (hN : NC s) (htr : l.stackTraces = false) (hXs : va_X b L xs s s.heap) (hbl : b < s.heap.size) (hbA : ¬ A b) (hL : L ≤ 3072) (hi : i + 6 ≤ L) (hcc : cells + 1 ≤ room_1.cells) (hss : slots + 6 ≤ room_1.slots) {g gM : St} {f : Nat → Int64} {r : (Nat → Int64) × St × St} {H : Heap} {locs : List Loc} {ls : Array Slot} (hP : va_P D cls (wL ad ca adM caM o cO g gM f) H) (hD : va_D A (wL ad ca adM caM o cO g gM f)) (hS : va_S A s.heap H locs) (hl : lv_has ls 7 [(0, .ref b), (1, .ref (ad 0)), (2, .ref (adM 0)), (3, .ref o), (4, .int (nI i))]) (h : lawC23 FU xs i f g gM = some r)
    (kk : ∀ (H : Heap) (locs : List Loc) (ls : Array Slot), va_P D cls (wL ad ca adM caM o cO r.2.1 r.2.2 r.1) H → va_D A (wL ad ca adM caM o cO r.2.1 r.2.2 r.1) → va_S A s.heap H locs → lv_has ls 7 [(0, .ref b), (1, .ref (ad 0)), (2, .ref (adM 0)), (3, .ref o), (4, .int (nI i))] → W p l e room_1 s m #[Value.ref b] below meth c H locs (cells + 1) (slots + 6) Q (F0 m 1529 ls [])) : W p l e room_1 s m #[Value.ref b] below meth c H locs cells slots Q (F0 m 1485 ls []) := by
  have hx := X.1
  have hb := X.2.1
  unfold lawC23 at h
  refine lv_aload_n hx hb d_law_1485 rfl (lv_at hl 1 rfl) ?_
  refine lv_aload_n hx hb d_law_1486 rfl (lv_at hl 3 rfl) ?_
  obtain ⟨p1, e1, h⟩ := bd_some h
  refine hs_S (As := [.ref (ad 0), .ref o]) X (h_faults e1) hZ hN htr hP hD hS kw_180 ⟨⟨Nat.le_of_ble_eq_true rfl, Nat.le_of_ble_eq_true rfl⟩, hcc, hss⟩ rfl hl.1 rfl (Nat.le_of_ble_eq_true rfl) d_law_1487 (fun H locs hP hD hS => ?_)
  have hP : va_P D cls (wL ad ca adM caM o cO p1.2.2 gM p1.2.1) H := hP
  have hD : va_D A (wL ad ca adM caM o cO p1.2.2 gM p1.2.1) := hD
  refine lv_istore hx hb d_law_1490 hl (by decide) rfl (fun ls hl => ?_)
  have hl : lv_has ls 7 [(5, .int (p1.1)), (0, .ref b), (1, .ref (ad 0)), (2, .ref (adM 0)), (3, .ref o), (4, .int (nI i))] := hl
  refine lv_aload_n hx hb d_law_1492 rfl (lv_at hl 3 rfl) ?_
  obtain ⟨b2, e1, h⟩ := bd_some h
  refine fr_i (pre := wF ad ca p1.2.2) (w := wM adM caM gM) (post := [(o, .inl (cO, (1, .inr (.inl p1.2.1))))]) (X.on (vk_l (vk_r X.2.2.2.2.2.2.2.1))) (fg_runV (As := []) (X.on (vk_l (vk_r X.2.2.2.2.2.2.2.1))) (m_Mod_faults e1 _) (vp_mid (pre := wF ad ca p1.2.2) (w := wM adM caM gM) (post := [(o, .inl (cO, (1, .inr (.inl p1.2.1))))]) hP) (vd_mid (pre := wF ad ca p1.2.2) (w := wM adM caM gM) (post := [(o, .inl (cO, (1, .inr (.inl p1.2.1))))]) hD) kv_LawM_182 ⟨⟨Nat.le_of_ble_eq_true rfl, Nat.le_of_ble_eq_true rfl⟩, by omega, by omega⟩ 0 rfl rfl rfl hl.1 rfl (Nat.le_of_ble_eq_true rfl) d_law_1493) hP hD hS (fun H locs hP hD hS => ?_)
  have hP : va_P D cls (wL ad ca adM caM o cO p1.2.2 b2.2 p1.2.1) H := hP
  have hD : va_D A (wL ad ca adM caM o cO p1.2.2 b2.2 p1.2.1) := hD
  refine lv_istore hx hb d_law_1496 hl (by decide) rfl (fun ls hl => ?_)
  have hl : lv_has ls 7 [(6, .int (b2.1)), (5, .int (p1.1)), (0, .ref b), (1, .ref (ad 0)), (2, .ref (adM 0)), (3, .ref o), (4, .int (nI i))] := hl
  refine lv_aload_n hx hb d_law_1498 rfl (lv_at hl 4 rfl) ?_
  obtain ⟨b3, e1, h⟩ := bd_some h
  refine fr_i (pre := wF ad ca p1.2.2) (w := wM adM caM b2.2) (post := [(o, .inl (cO, (1, .inr (.inl p1.2.1))))]) (X.on (vk_l (vk_r X.2.2.2.2.2.2.2.1))) (fg_runV (As := []) (X.on (vk_l (vk_r X.2.2.2.2.2.2.2.1))) (m_Mod_thrown e1 _) (vp_mid (pre := wF ad ca p1.2.2) (w := wM adM caM b2.2) (post := [(o, .inl (cO, (1, .inr (.inl p1.2.1))))]) hP) (vd_mid (pre := wF ad ca p1.2.2) (w := wM adM caM b2.2) (post := [(o, .inl (cO, (1, .inr (.inl p1.2.1))))]) hD) kv_LawM_102 ⟨⟨Nat.le_of_ble_eq_true rfl, Nat.le_of_ble_eq_true rfl⟩, by omega, by omega⟩ 0 rfl rfl rfl hl.1 rfl (Nat.le_of_ble_eq_true rfl) d_law_1499) hP hD hS (fun H locs hP hD hS => ?_)
  have hP : va_P D cls (wL ad ca adM caM o cO p1.2.2 b2.2 p1.2.1) H := hP
  have hD : va_D A (wL ad ca adM caM o cO p1.2.2 b2.2 p1.2.1) := hD
  refine lv_iload hx hb d_law_1502 (lv_at hl 1 rfl) ?_
  refine lv_icmp_eq (tgt := 1509) hx hb d_law_1504 (by decide) (fun hc => ?_) (fun hc => ?_)
  · have h := if_t hc h
    refine lv_iload hx hb d_law_1509 (lv_at hl 1 rfl) ?_
    refine lv_if_ne (tgt := 1526) hx hb d_law_1511 (by decide) (fun hc => ?_) (fun hc => ?_)
    · have h := if_f hc h
      refine lv_goto (tgt := 1529) hx hb d_law_1526 (by decide) ?_
      cases h
      exact kk _ _ _ hP hD hS (lv_sub hl [2, 3, 4, 5, 6] rfl)
    · have h := if_t hc h
      refine lv_aload_n hx hb d_law_1514 rfl (lv_at hl 5 rfl) ?_
      refine lv_iconst (v := 0) hx hb d_law_1515 (by decide) ?_
      refine lw_lald X hP d_law_1516 ?_
      refine lv_iload hx hb d_law_1517 (lv_at hl 0 rfl) ?_
      refine lv_i2l (v := (b2.1).toInt64) hx hb d_law_1519 rfl ?_
      refine W.lcmp hx hb d_law_1520 ?_
      refine lv_if_eq (tgt := 1526) hx hb d_law_1521 (by decide) (fun hc => ?_) (fun hc => ?_)
      · have h := if_t hc h
        refine lv_goto (tgt := 1529) hx hb d_law_1526 (by decide) ?_
        cases h
        exact kk _ _ _ hP hD hS (lv_sub hl [2, 3, 4, 5, 6] rfl)
      · have h := if_f hc h
        cases h
  · have h := if_f hc h
    cases h
