/-! from the start -/
noncomputable def A00 : AB := ((fun _ => 0), 0, (fun _ => 0), 0, 0, 0, 0, 0, 0, 1, 0, rootT, rootT, (fun _ => false), (fun _ => fv0), (fun _ => false))
noncomputable def A0 : AB := A00.pre
def z0F : NSt := (fun k => if k = 3 then 4294967295 else 0, fun _ _ => 0)
def w0M : NSt := (fun k => if k = 8 then neg1 else 0, fun _ _ => 0)
theorem g0F_z : g0F = up z0F := by
  refine Prod.ext (funext fun k => ?_) rfl
  show (if k = 3 then (-1 : Int32) else 0) = nI (if k = 3 then 4294967295 else 0)
  split
  · decide
  · rfl
theorem g0M_w : g0M = up w0M := by
  refine Prod.ext (funext fun k => ?_) rfl
  show (if k = 8 then (-1 : Int32) else 0) = nI (if k = 8 then neg1 else 0)
  split
  · decide
  · rfl
theorem A0_f : A0.tl = 0 ∧ A0.ol = 0 ∧ A0.dv = 0 ∧ A0.ct = 0 ∧ A0.fw = 0 ∧ A0.tk = 0 ∧ A0.O = rootT ∧ A0.S = (fun _ => false) ∧ A0.tp = (fun _ => 0) := ⟨rfl, rfl, rfl, rfl, rfl, rfl, rfl, rfl, rfl⟩
theorem LI_0 : LI z0F w0M A0 0 := by
  obtain ⟨a1, a2, a3, a4, a5, a6, a7, a8, a9⟩ := A0_f
  have ai : AI A0 0 := AI.pre (A := A00) root_wf (by show (1 : Nat) ≤ 1664; decide) (by
    show sm (fun j => auT rootT (1 + j)) 250 ≤ 1
    rw [root_au]
    exact Nat.le_refl _)
  obtain ⟨A, eA⟩ : ∃ A, A = A0 := ⟨_, rfl⟩
  rw [← eA] at a1 a2 a3 a4 a5 a6 a7 a8 a9 ai ⊢
  refine ⟨⟨?_, Or.inl a3⟩, ai, Or.inr ⟨a3, ?_, by show (0 : Nat) < 6600; decide, fun _ _ _ => Nat.zero_le _, rfl⟩, ?_⟩
  · refine ⟨by rw [a1]; rfl, by rw [a2]; rfl, by rw [a1]; decide, by rw [a2]; decide, fun i _ => by rw [a9]; rfl, fun i hi => by rw [a2] at hi; omega, fun i _ => by rw [a9]; show (0 : Nat) < 256; decide, fun i hi => by rw [a2] at hi; omega, by rw [a3]; rfl, Or.inl ⟨a4, rfl⟩, by rw [a5]; rfl, fun _ _ _ _ => by show (0 : Nat) < 2 ^ 32; decide, ⟨⟨fun _ => Nat.zero_le _, fun b _ i _ => rfl⟩, fun _ _ => rfl, fun _ _ => rfl⟩, fun _ _ => rfl⟩
  · refine ⟨?_, Or.inl ⟨a4, rfl⟩, fun _ => a4, ?_, ?_, fun i _ => ?_, fun i hi => ?_, fun _ _ => by show (0 : Nat) < 2 ^ 32; decide⟩
    · rw [a3]; exact ⟨by decide, rfl, rfl⟩
    · rw [a1]; exact ⟨rfl, by decide⟩
    · rw [a2]; exact ⟨rfl, by decide⟩
    · rw [a9]; exact ⟨rfl, by show (0 : Nat) < 256; decide⟩
    · rw [a2] at hi; omega
  · exact ⟨by rw [a7]; exact root_tfa, fun i q => by rw [a8] at q; exact Bool.noConfusion q, by rw [a6]; exact Nat.le_refl _⟩
theorem law_runs (xs : Nat → Int32) (k : Nat) (hk : k ≤ 512) : ∃ FU, lawRun FU xs k 0 (fun _ => 0) g0F g0M = some () :=
  ⟨300001, by
    rw [g0F_z, g0M_w]
    exact run_all (by decide) xs k 0 0 (fun _ => 0) z0F w0M A0 LI_0 (by omega)⟩
