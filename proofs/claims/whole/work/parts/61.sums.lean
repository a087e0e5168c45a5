/-! sums over a beginning of the numbers -/
def sm (f : Nat → Nat) : Nat → Nat
  | 0 => 0
  | n + 1 => sm f n + f n
theorem sm_congr {f g : Nat → Nat} : ∀ {n : Nat}, (∀ i, i < n → f i = g i) → sm f n = sm g n := by
  intro n
  induction n with
  | zero => intro _; rfl
  | succ n ih =>
    intro h
    show sm f n + f n = sm g n + g n
    rw [ih (fun i hi => h i (by omega)), h n (by omega)]
theorem sm_out {f : Nat → Nat} {i v : Nat} : ∀ {n : Nat}, n ≤ i → sm (va_up f i v) n = sm f n := by
  intro n h
  exact sm_congr (fun j hj => va_up_ne f v (by omega))
theorem sm_up {f : Nat → Nat} {i v : Nat} : ∀ {n : Nat}, i < n → sm (va_up f i v) n + f i = sm f n + v := by
  intro n
  induction n with
  | zero => intro h; omega
  | succ n ih =>
    intro h
    show sm (va_up f i v) n + va_up f i v n + f i = sm f n + f n + v
    by_cases e : i = n
    · subst e
      rw [sm_out (Nat.le_refl _), va_up_self]
      omega
    · rw [va_up_ne f v (by omega)]
      have := ih (by omega)
      omega
theorem sm_le {f g : Nat → Nat} : ∀ {n : Nat}, (∀ i, i < n → f i ≤ g i) → sm f n ≤ sm g n := by
  intro n
  induction n with
  | zero => intro _; exact Nat.le_refl _
  | succ n ih =>
    intro h
    show sm f n + f n ≤ sm g n + g n
    have := ih (fun i hi => h i (by omega))
    have := h n (by omega)
    omega
theorem sm_zero {f : Nat → Nat} : ∀ {n : Nat}, (∀ i, i < n → f i = 0) → sm f n = 0 := by
  intro n
  induction n with
  | zero => intro _; rfl
  | succ n ih =>
    intro h
    show sm f n + f n = 0
    rw [ih (fun i hi => h i (by omega)), h n (by omega)]
theorem sm_one {f : Nat → Nat} {i : Nat} : ∀ {n : Nat}, i < n → f i ≤ sm f n := by
  intro n
  induction n with
  | zero => intro h; omega
  | succ n ih =>
    intro h
    show f i ≤ sm f n + f n
    by_cases e : i = n
    · subst e; omega
    · have := ih (by omega); omega
theorem sm_z {f : Nat → Nat} {n i : Nat} (h : sm f n = 0) (hi : i < n) : f i = 0 := by
  have := sm_one (f := f) hi
  omega
theorem sm_ex {f : Nat → Nat} : ∀ {n : Nat}, 0 < sm f n → ∃ i, i < n ∧ f i ≠ 0 := by
  intro n
  induction n with
  | zero => intro h; exact absurd h (Nat.lt_irrefl _)
  | succ n ih =>
    intro h
    have h : 0 < sm f n + f n := h
    by_cases e : f n = 0
    · obtain ⟨i, h1, h2⟩ := ih (by omega)
      exact ⟨i, by omega, h2⟩
    · exact ⟨n, by omega, e⟩
theorem sm_add {f g : Nat → Nat} : ∀ {n : Nat}, sm (fun i => f i + g i) n = sm f n + sm g n := by
  intro n
  induction n with
  | zero => rfl
  | succ n ih =>
    show sm (fun i => f i + g i) n + (f n + g n) = sm f n + f n + (sm g n + g n)
    omega
theorem sm_mul {f : Nat → Nat} {c : Nat} : ∀ {n : Nat}, sm (fun i => c * f i) n = c * sm f n := by
  intro n
  induction n with
  | zero => rfl
  | succ n ih =>
    show sm (fun i => c * f i) n + c * f n = c * (sm f n + f n)
    rw [ih, Nat.mul_add]
theorem sm_const {c : Nat} : ∀ {n : Nat}, sm (fun _ => c) n = n * c := by
  intro n
  induction n with
  | zero => simp [sm]
  | succ n ih =>
    show sm (fun _ => c) n + c = (n + 1) * c
    rw [ih, Nat.succ_mul]
theorem sm_cut {f : Nat → Nat} {a : Nat} : ∀ {b : Nat}, sm f (a + b) = sm f a + sm (fun i => f (a + i)) b := by
  intro b
  induction b with
  | zero => rfl
  | succ b ih =>
    show sm f (a + b) + f (a + b) = sm f a + (sm (fun i => f (a + i)) b + f (a + b))
    omega
/-- how many below n -/
def ct (p : Nat → Prop) [DecidablePred p] (n : Nat) : Nat := sm (fun i => if p i then 1 else 0) n
