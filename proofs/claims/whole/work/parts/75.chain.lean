/-! the chain of nodes since the latest checkpoint -/
def chn (W : Nat → Nat → Nat) : List Nat → Nat → Nat → Prop
  | [], e, x => e = x
  | b :: l, e, x => b = e ∧ chn W l (W b 63) x
def hasM (W : Nat → Nat → Nat) (l : List Nat) (o : Nat) : Bool := l.any (fun c => decide (W c 59 = 1 ∧ W c 61 = o))
def fwd (W : Nat → Nat → Nat) : (Nat → Nat) → List Nat → Nat → Nat
  | P, [] => P
  | P, b :: l => fwd W (if hasM W (b :: l) (W b 61) = true then va_up P (W b 60) b else P) l
def LE (W : Nat → Nat → Nat) : (Nat → Nat) → List Nat → Nat → Nat
  | P, [] => P
  | P, b :: l => LE W (va_up P (W b 60) b) l
theorem hasM_app (W : Nat → Nat → Nat) (l : List Nat) (b o : Nat) : hasM W (l ++ [b]) o = (hasM W l o || decide (W b 59 = 1 ∧ W b 61 = o)) := by
  unfold hasM
  rw [List.any_append]
  simp only [List.any_cons, List.any_nil, Bool.or_false]
theorem hasM_cons (W : Nat → Nat → Nat) (l : List Nat) (b o : Nat) : hasM W (b :: l) o = (decide (W b 59 = 1 ∧ W b 61 = o) || hasM W l o) := by
  unfold hasM
  rw [List.any_cons]
theorem chn_app {W : Nat → Nat → Nat} {q : Nat} : ∀ {l : List Nat} {e : Nat}, chn W l e q → chn W (l ++ [q]) e (W q 63) := by
  intro l
  induction l with
  | nil => intro e h; exact ⟨h.symm, rfl⟩
  | cons b l ih => intro e h; exact ⟨h.1, ih h.2⟩
theorem chn_congr {W W' : Nat → Nat → Nat} {x : Nat} : ∀ {l : List Nat} {e : Nat}, (∀ c, c ∈ l → W' c = W c) → chn W l e x → chn W' l e x := by
  intro l
  induction l with
  | nil => intro e _ h; exact h
  | cons b l ih =>
    intro e hw h
    refine ⟨h.1, ?_⟩
    rw [hw b (List.mem_cons_self ..)]
    exact ih (fun c hc => hw c (List.mem_cons_of_mem _ hc)) h.2
theorem hasM_congr {W W' : Nat → Nat → Nat} : ∀ {l : List Nat}, (∀ c, c ∈ l → W' c = W c) → ∀ o, hasM W' l o = hasM W l o := by
  intro l
  induction l with
  | nil => intro _ o; rfl
  | cons b l ih =>
    intro hw o
    rw [hasM_cons, hasM_cons, hw b (List.mem_cons_self ..), ih (fun c hc => hw c (List.mem_cons_of_mem _ hc))]
theorem fwd_congr {W W' : Nat → Nat → Nat} : ∀ {l : List Nat}, (∀ c, c ∈ l → W' c = W c) → ∀ P, fwd W' P l = fwd W P l := by
  intro l
  induction l with
  | nil => intro _ P; rfl
  | cons b l ih =>
    intro hw P
    unfold fwd
    rw [hasM_congr hw, hw b (List.mem_cons_self ..), ih (fun c hc => hw c (List.mem_cons_of_mem _ hc))]
theorem LE_congr {W W' : Nat → Nat → Nat} : ∀ {l : List Nat}, (∀ c, c ∈ l → W' c = W c) → ∀ P, LE W' P l = LE W P l := by
  intro l
  induction l with
  | nil => intro _ P; rfl
  | cons b l ih =>
    intro hw P
    unfold LE
    rw [hw b (List.mem_cons_self ..), ih (fun c hc => hw c (List.mem_cons_of_mem _ hc))]
theorem fwd_un {W : Nat → Nat → Nat} {b : Nat} (hb : W b 59 ≠ 1) : ∀ (l : List Nat) (P : Nat → Nat), fwd W P (l ++ [b]) = fwd W P l := by
  have hd : ∀ o, decide (W b 59 = 1 ∧ W b 61 = o) = false := fun o => decide_eq_false (fun q => hb q.1)
  intro l
  induction l with
  | nil =>
    intro P
    show fwd W (if hasM W [b] (W b 61) = true then va_up P (W b 60) b else P) [] = P
    rw [hasM_cons, hd]
    rfl
  | cons c l ih =>
    intro P
    show fwd W (if hasM W ((c :: l) ++ [b]) (W c 61) = true then va_up P (W c 60) c else P) (l ++ [b]) = _
    rw [hasM_app, hd, Bool.or_false, ih]
    rfl
theorem fwd_mkA {W : Nat → Nat → Nat} {b o n : Nat} (hb : W b 59 = 1) (ho : W b 61 = o) : ∀ (l : List Nat) (P Q : Nat → Nat), P n = Q n → (∀ c, c ∈ l → W c 60 = n → W c 61 = o) → fwd W P (l ++ [b]) n = LE W Q (l ++ [b]) n := by
  have hd : ∀ l, hasM W (l ++ [b]) o = true := fun l => by
    rw [hasM_app, decide_eq_true (⟨hb, ho⟩ : W b 59 = 1 ∧ W b 61 = o), Bool.or_true]
  intro l
  induction l with
  | nil =>
    intro P Q h _
    show (if hasM W ([] ++ [b]) (W b 61) = true then va_up P (W b 60) b else P) n = va_up Q (W b 60) b n
    rw [ho, if_pos (hd [])]
    unfold va_up
    split
    · rfl
    · exact h
  | cons c l ih =>
    intro P Q h hc
    show fwd W (if hasM W ((c :: l) ++ [b]) (W c 61) = true then va_up P (W c 60) c else P) (l ++ [b]) n = LE W (va_up Q (W c 60) c) (l ++ [b]) n
    refine ih _ _ ?_ (fun d hd => hc d (List.mem_cons_of_mem _ hd))
    by_cases q : W c 60 = n
    · rw [hc c (List.mem_cons_self ..) q, if_pos (hd (c :: l)), q, va_up_self, va_up_self]
    · rw [va_up_ne _ _ (Ne.symm q)]
      split
      · rw [va_up_ne _ _ (Ne.symm q)]; exact h
      · exact h
theorem fwd_mkB {W : Nat → Nat → Nat} {b o n : Nat} (ho : W b 61 = o) (hn : W b 60 ≠ n) : ∀ (l : List Nat) (P Q : Nat → Nat), P n = Q n → (∀ c, c ∈ l → W c 60 = n → W c 61 ≠ o) → fwd W P (l ++ [b]) n = fwd W Q l n := by
  intro l
  induction l with
  | nil =>
    intro P Q h _
    show (if hasM W ([] ++ [b]) (W b 61) = true then va_up P (W b 60) b else P) n = Q n
    split
    · rw [va_up_ne _ _ (Ne.symm hn)]; exact h
    · exact h
  | cons c l ih =>
    intro P Q h hc
    show fwd W (if hasM W ((c :: l) ++ [b]) (W c 61) = true then va_up P (W c 60) c else P) (l ++ [b]) n = fwd W (if hasM W (c :: l) (W c 61) = true then va_up Q (W c 60) c else Q) l n
    refine ih _ _ ?_ (fun d hd => hc d (List.mem_cons_of_mem _ hd))
    by_cases q : W c 60 = n
    · have hne := hc c (List.mem_cons_self ..) q
      rw [hasM_app, decide_eq_false (fun w => hne (ho ▸ w.2).symm), Bool.or_false]
      split
      · rw [q, va_up_self, va_up_self]
      · exact h
    · have e1 : ∀ (x : Bool) (R : Nat → Nat), (if x = true then va_up R (W c 60) c else R) n = R n := fun x R => by
        split
        · rw [va_up_ne _ _ (Ne.symm q)]
        · rfl
      rw [e1, e1]
      exact h
theorem LE_app (W : Nat → Nat → Nat) (b : Nat) : ∀ (l : List Nat) (P : Nat → Nat), LE W P (l ++ [b]) = va_up (LE W P l) (W b 60) b := by
  intro l
  induction l with
  | nil => intro P; rfl
  | cons c l ih => intro P; exact ih _
theorem LE_val (W : Nat → Nat → Nat) (n : Nat) : ∀ (l : List Nat) (P : Nat → Nat), (LE W P l n = P n ∧ ∀ c, c ∈ l → W c 60 ≠ n) ∨ (LE W P l n ∈ l ∧ W (LE W P l n) 60 = n) := by
  intro l
  induction l with
  | nil => intro P; exact Or.inl ⟨rfl, fun c hc => by cases hc⟩
  | cons b l ih =>
    intro P
    rcases ih (va_up P (W b 60) b) with ⟨h1, h2⟩ | ⟨h1, h2⟩
    · by_cases q : W b 60 = n
      · right
        have e : LE W P (b :: l) n = b := by
          show LE W (va_up P (W b 60) b) l n = b
          rw [h1, q, va_up_self]
        rw [e]
        exact ⟨List.mem_cons_self .., q⟩
      · left
        refine ⟨?_, fun c hc => ?_⟩
        · show LE W (va_up P (W b 60) b) l n = P n
          rw [h1, va_up_ne _ _ (Ne.symm q)]
        · rcases List.mem_cons.mp hc with rfl | hc
          · exact q
          · exact h2 c hc
    · right
      exact ⟨List.mem_cons_of_mem _ h1, h2⟩
theorem fwd_val (W : Nat → Nat → Nat) (n : Nat) : ∀ (l : List Nat) (P : Nat → Nat), fwd W P l n = P n ∨ (fwd W P l n ∈ l ∧ W (fwd W P l n) 60 = n ∧ hasM W l (W (fwd W P l n) 61) = true) := by
  intro l
  induction l with
  | nil => intro P; exact Or.inl rfl
  | cons b l ih =>
    intro P
    rcases ih (if hasM W (b :: l) (W b 61) = true then va_up P (W b 60) b else P) with h1 | ⟨h1, h2, h3⟩
    · by_cases c : hasM W (b :: l) (W b 61) = true
      · rw [if_pos c] at h1
        by_cases q : W b 60 = n
        · right
          have e : fwd W P (b :: l) n = b := by
            show fwd W (if hasM W (b :: l) (W b 61) = true then va_up P (W b 60) b else P) l n = b
            rw [if_pos c, h1, q, va_up_self]
          rw [e]
          exact ⟨List.mem_cons_self .., q, c⟩
        · left
          show fwd W (if hasM W (b :: l) (W b 61) = true then va_up P (W b 60) b else P) l n = P n
          rw [if_pos c, h1, va_up_ne _ _ (Ne.symm q)]
      · left
        rw [if_neg c] at h1
        show fwd W (if hasM W (b :: l) (W b 61) = true then va_up P (W b 60) b else P) l n = P n
        rw [if_neg c]
        exact h1
    · right
      refine ⟨List.mem_cons_of_mem _ h1, h2, ?_⟩
      show hasM W (b :: l) (W (fwd W (if hasM W (b :: l) (W b 61) = true then va_up P (W b 60) b else P) l n) 61) = true
      rw [hasM_cons, h3, Bool.or_true]
