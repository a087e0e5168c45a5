/-! all claimed: the tree as mounting finds it -/
theorem nodup_sm {n : Nat} : ∀ (l : List Nat), l.Nodup → (∀ b, b ∈ l → b < n) → sm (fun b => if b ∈ l then 1 else 0) n = l.length := by
  intro l
  induction l with
  | nil => intro _ _; exact sm_zero (fun i _ => if_neg (by simp))
  | cons b l ih =>
    intro hd hl
    have hd2 := List.nodup_cons.mp hd
    have hb := hl b (List.mem_cons_self ..)
    have h := ih hd2.2 (fun c hc => hl c (List.mem_cons_of_mem _ hc))
    have hu := sm_up (f := fun c => if c ∈ l then 1 else 0) (i := b) (v := 1) (n := n) hb
    have e : sm (fun c => if c ∈ b :: l then 1 else 0) n = sm (va_up (fun c => if c ∈ l then 1 else 0) b 1) n := sm_congr (fun c _ => by
      by_cases q : c = b
      · rw [q, va_up_self, if_pos (List.mem_cons_self ..)]
      · rw [va_up_ne _ _ q]
        by_cases w : c ∈ l
        · rw [if_pos w, if_pos (List.mem_cons_of_mem _ w)]
        · rw [if_neg w, if_neg (fun v => (List.mem_cons.mp v).elim q w)])
    have hu : sm (va_up (fun c => if c ∈ l then 1 else 0) b 1) n + (if b ∈ l then 1 else 0) = sm (fun c => if c ∈ l then 1 else 0) n + 1 := hu
    rw [if_neg hd2.1] at hu
    rw [e]
    show _ = l.length + 1
    omega
theorem nodup_len {n : Nat} {l : List Nat} (hd : l.Nodup) (hl : ∀ b, b ∈ l → b < n) : l.length ≤ n := by
  rw [← nodup_sm l hd hl]
  have := sm_bnd (f := fun b => if b ∈ l then 1 else 0) (n := n) (c := 1) (fun i _ => by split <;> omega)
  omega
theorem CLQ.same {z : NSt} {W : Nat → Nat → Nat} {q : Nat → Nat} {R : TRE} (hr : RFI W q R) (h : CLQ z W q R 251) {id : Nat} (h1 : 1 ≤ id) (h2 : id ≤ 250) (h0 : q id ≠ 0) : SAME W W q (z.2 6) id := by
  have hi := hr.tok.ids id h1 h2
  have hk : R.kd id ≠ 0 := fun w => h0 (hi.pl.mpr w)
  refine ⟨h.p1 id h2, rfl, fun w j hj hj0 => ⟨?_, rfl⟩⟩
  rw [(hi.kd hk).1] at w
  have hk1 : R.kd id = 1 := by
    have := (hr.tok.rng id hk).2.2
    omega
  have hrg := (hi.fil hk1).2.2.rng j hj hj0
  exact h.p3 _ hrg.1 (Or.inr ⟨id, j, by omega, hk1, hj, rfl, hj0⟩)
theorem CLQ.done {z : NSt} {W : Nat → Nat → Nat} {q : Nat → Nat} {R : TRE} (hr : RFI W q R) (h : CLQ z W q R 251) : TR (z.2 6) (BPL W (z.2 6)) (z.2 9) ∧ TOK W (z.2 6) R ∧ LED W (z.2 6) R ∧ NUM W (z.2 6) ∧ (∀ i k, BPL W (z.2 6) i k = BPL W q i k) ∧ ∀ n, z.2 6 n ≠ 0 → z.2 6 n = q n := by
  have q0 : q 0 = 0 := Classical.byContradiction (fun w => by
    have := (hr.qr 0 w).2.2.1
    omega)
  have e1 : ∀ n, z.2 6 n ≠ 0 → z.2 6 n = q n ∧ NI W q R 251 n := fun n hn => by
    by_cases c : n ≤ 250
    · refine ⟨h.p1 n c, Or.inl ⟨?_, by omega⟩⟩
      rw [h.p1 n c] at hn
      exact (hr.qr n hn).2.2.1
    · exact h.p2 n (by omega) hn
  have e2 : ∀ n, NI W q R 251 n → z.2 6 n = q n := fun n hn => by
    by_cases c : n ≤ 250
    · exact h.p1 n c
    · exact h.p3 n (by omega) hn
  have hb : ∀ i k, BPL W (z.2 6) i k = BPL W q i k := fun i k => by
    by_cases c : q i = 0 ∨ 250 < i
    · rw [BPL_0 c]
      by_cases c2 : 250 < i
      · rw [BPL_0 (Or.inr c2)]
      · rw [BPL_0 (Or.inl (by rw [h.p1 i (by omega)]; omega))]
    · have c1 : i ≠ 0 := fun w => c (Or.inl (by rw [w]; exact q0))
      exact (h.same hr (by omega) (by omega) (fun w => c (Or.inl w))).bpl k
  refine ⟨⟨fun n m e e0 => ?_, fun b => ?_, fun b => ?_, fun n i m j e0 e => ?_⟩, ⟨hr.tok.rng, fun id h1 h2 => ?_⟩, fun n n1 n2 => ?_, fun n hn => ?_, hb, fun n hn => (e1 n hn).1⟩
  · have a := (e1 n e0).1
    have b := (e1 m (by rw [← e]; exact e0)).1
    have c1 := (hr.qr n (by rw [← a]; exact e0)).2.2.2.2
    have c2 := (hr.qr m (by rw [← b, ← e]; exact e0)).2.2.2.2
    rw [← a] at c1
    rw [← b, ← e, c1] at c2
    exact c2
  · rw [h.cl.u1 b]
    constructor
    · rintro ⟨b0, n, hn, e⟩
      exact ⟨b0, n, by rw [e2 n hn]; exact e⟩
    · rintro ⟨b0, n, e⟩
      obtain ⟨a1, a2⟩ := e1 n (by rw [e]; exact b0)
      exact ⟨b0, n, a2, by rw [← a1]; exact e⟩
  · rw [h.cl.u2 b]
    constructor
    · rintro ⟨b0, i, k, -, e⟩
      exact ⟨b0, i, k, by rw [hb]; exact e⟩
    · rintro ⟨b0, i, k, e⟩
      rw [hb] at e
      have := BPL_k (W := W) (P := q) (id := i) (k := k) (by rw [e]; exact b0)
      exact ⟨b0, i, k, by omega, e⟩
  · rw [hb] at e0 e
    rw [hb] at e
    exact hr.di n i m j e0 e
  · exact (hr.tok.ids id h1 h2).same h2 (SAMT.rfl' R id) (fun w => h.same hr h1 h2 w) (fun w => by rw [h.p1 id h2]; exact w) (fun _ _ => rfl)
  · rcases (e1 n n2).2 with w | ⟨i, j, a1, a2, a3, a4, a5⟩
    · omega
    · obtain ⟨v1, v2, -⟩ := hr.tok.rng i (by omega)
      have hi := hr.tok.ids i v1 v2
      have hq : q i ≠ 0 := fun w => by
        have := hi.pl.mp w
        omega
      refine ⟨i, j, a2, a3, ?_⟩
      rw [(h.same hr v1 v2 hq).nb (by rw [(hi.kd (by omega)).1]; omega)]
      exact a4
  · have a := (e1 n hn).1
    rw [a] at hn ⊢
    have := hr.qr n hn
    exact ⟨this.2.2.1, this.2.2.2.1, this.2.2.2.2⟩
