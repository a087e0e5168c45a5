/-! my own frame: pure states, the tables' words as one fact, contracts over whole worlds -/
abbrev St : Type := (Nat → Int32) × (Nat → Nat → Int32)
def setI (s : St) (k : Nat) (v : Int32) : St := (upd s.1 k v, s.2)
def setR (s : St) (a : Nat) (f : Nat → Int32) : St := (s.1, va_up s.2 a f)
def setA (s : St) (a : Nat) (i v : Int32) : St := (s.1, va_up s.2 a (upd (s.2 a) i.toNatClampNeg v))
def rdA (n : Nat) (s : St) (a : Nat) (i : Int32) : Option Int32 := if i < 0 ∨ n ≤ i.toNatClampNeg then none else some (s.2 a i.toNatClampNeg)
def wrA (n : Nat) (s : St) (a : Nat) (i v : Int32) : Option St := if i < 0 ∨ n ≤ i.toNatClampNeg then none else some (setA s a i v)
def nx {α β : Type} (a : α) (f : α → Option β) : Option β := f a
def ush (x y : Int32) : Int32 := (x.toUInt32 >>> (y.toUInt32 &&& Int32.toUInt32 31)).toInt32
def nz (x : Int32) : Int32 := vp_nar .boolean x
def nby (x : Int32) : Int32 := vp_nar .byte x
theorem nx_some {α β : Type} {a : α} {f : α → Option β} {r : β} (h : nx a f = some r) : ∃ x, a = x ∧ f x = some r := ⟨a, rfl, h⟩
theorem bd_some {α β : Type} {a : Option α} {f : α → Option β} {r : β} (h : a.bind f = some r) : ∃ x, a = some x ∧ f x = some r := Option.bind_eq_some_iff.mp h
theorem rdA_some {n : Nat} {s : St} {a : Nat} {i v : Int32} (h : rdA n s a i = some v) : vp_in i n ∧ s.2 a i.toNatClampNeg = v := by
  unfold rdA at h
  split at h
  · cases h
  · rename_i hn
    exact ⟨hn, Option.some.inj h⟩
theorem wrA_some {n : Nat} {s s1 : St} {a : Nat} {i v : Int32} (h : wrA n s a i v = some s1) : vp_in i n ∧ setA s a i v = s1 := by
  unfold wrA at h
  split at h
  · cases h
  · rename_i hn
    exact ⟨hn, Option.some.inj h⟩
theorem if_some {α : Type} {c : Prop} [Decidable c] {a b : Option α} {r : α} (h : (if c then a else b) = some r) : (c ∧ a = some r) ∨ (¬ c ∧ b = some r) := by
  by_cases hc : c
  · exact Or.inl ⟨hc, by rwa [if_pos hc] at h⟩
  · exact Or.inr ⟨hc, by rwa [if_neg hc] at h⟩
theorem if_t {α : Type} {c : Prop} [Decidable c] {a b r : α} (hc : c) (h : (if c then a else b) = r) : a = r := by rwa [if_pos hc] at h
theorem if_f {α : Type} {c : Prop} [Decidable c] {a b r : α} (hc : ¬ c) (h : (if c then a else b) = r) : b = r := by rwa [if_neg hc] at h
def tt_ok : Cond → Bool
  | .methodLinkNest .. => true
  | .castable .. => true
  | .declares _ => true
  | w => goodWord w
def TT : List Cond := lw_tbl.filter tt_ok
def TB (U : State) : Prop := ∀ w ∈ TT, w.before #[] U = true
theorem tt_on {w : Cond} (h : tt_ok w = true) : w.onTables = true ∨ ∃ ty, w = .arrayClass ty := by
  cases w <;> first
    | exact Or.inr ⟨_, rfl⟩
    | exact Or.inl rfl
    | exact absurd h Bool.false_ne_true
theorem TB.use {args : Array Value} {U : State} {w : Cond} (h : TB U) (hw : w ∈ TT) : w.before args U = true := by
  have h1 := h w hw
  have hk : tt_ok w = true := (List.mem_filter.mp hw).2
  rcases tt_on hk with ho | ⟨ty, rfl⟩
  · exact va_tabs ho rfl h1
  · exact h1
theorem TB.of {args : Array Value} {s : State} (hts : ∀ w ∈ lw_tbl, w.before args s = true) : TB s := by
  intro w hw
  have hk : tt_ok w = true := (List.mem_filter.mp hw).2
  have h1 := hts w (List.mem_filter.mp hw).1
  rcases tt_on hk with ho | ⟨ty, rfl⟩
  · exact va_tabs ho rfl h1
  · exact h1
theorem TB.warm {s U : State} (hW : s.WarmedH U.vm) (h : TB s) : TB U := by
  intro w hw
  have h1 := h w hw
  have hk : tt_ok w = true := (List.mem_filter.mp hw).2
  cases w <;> first
    | exact va_Nw.warmM hW h1
    | exact va_Nw.warmC hW h1
    | exact va_Nw.warmD hW h1
    | exact word_at hW (good_of_word hk) h1
theorem TB.calling {U : State} (h : TB U) (g : JFrame) (mk : MethodId) (a : Array Value) : TB (U.calling g mk a) := TB.warm (s := U) (U := U.calling g mk a) (State.WarmedH.refl U) h
theorem tt1 {w : Cond} (h : w ∈ tables_1_1) (hg : tt_ok w = true) : w ∈ TT := List.mem_filter.mpr ⟨List.mem_append_right _ (List.mem_append_left _ h), hg⟩
theorem tt2 {w : Cond} (h : w ∈ tables_1_2) (hg : tt_ok w = true) : w ∈ TT := List.mem_filter.mpr ⟨List.mem_append_right _ (List.mem_append_right _ (List.mem_append_left _ h)), hg⟩
theorem tt3 {w : Cond} (h : w ∈ tables_1_3) (hg : tt_ok w = true) : w ∈ TT := List.mem_filter.mpr ⟨List.mem_append_right _ (List.mem_append_right _ (List.mem_append_right _ (List.mem_append_left _ h))), hg⟩
theorem tt4 {w : Cond} (h : w ∈ tables_1_4) (hg : tt_ok w = true) : w ∈ TT := List.mem_filter.mpr ⟨List.mem_append_right _ (List.mem_append_right _ (List.mem_append_right _ (List.mem_append_right _ (List.mem_append_left _ h)))), hg⟩
theorem tt5 {w : Cond} (h : w ∈ tables_1_5) (hg : tt_ok w = true) : w ∈ TT := List.mem_filter.mpr ⟨List.mem_append_right _ (List.mem_append_right _ (List.mem_append_right _ (List.mem_append_right _ (List.mem_append_right _ (List.mem_append_left _ h))))), hg⟩
theorem tt6 {w : Cond} (h : w ∈ tables_1_6) (hg : tt_ok w = true) : w ∈ TT := List.mem_filter.mpr ⟨List.mem_append_right _ (List.mem_append_right _ (List.mem_append_right _ (List.mem_append_right _ (List.mem_append_right _ (List.mem_append_right _ (List.mem_append_left _ h)))))), hg⟩
theorem tt7 {w : Cond} (h : w ∈ tables_1_7) (hg : tt_ok w = true) : w ∈ TT := List.mem_filter.mpr ⟨List.mem_append_right _ (List.mem_append_right _ (List.mem_append_right _ (List.mem_append_right _ (List.mem_append_right _ (List.mem_append_right _ (List.mem_append_right _ (List.mem_append_left _ h))))))), hg⟩
theorem tt8 {w : Cond} (h : w ∈ tables_1_8) (hg : tt_ok w = true) : w ∈ TT := List.mem_filter.mpr ⟨List.mem_append_right _ (List.mem_append_right _ (List.mem_append_right _ (List.mem_append_right _ (List.mem_append_right _ (List.mem_append_right _ (List.mem_append_right _ (List.mem_append_right _ h))))))), hg⟩
theorem tts {q : MethodName × Nat} (h : q ∈ lw_privs) : Cond.selects q.1.cls q.1 q.1 ∈ TT := List.mem_filter.mpr ⟨List.mem_append_left _ (List.mem_map.mpr ⟨q, h, rfl⟩), rfl⟩
