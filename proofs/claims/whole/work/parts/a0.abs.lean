/-! the state that the class and the model both stand for -/
def AB : Type := (Nat → Nat) × (Nat) × (Nat → Nat) × (Nat) × (Nat) × (Nat) × (Nat) × (Nat) × (Nat) × (Nat) × (Nat) × (TRE) × (TRE) × (Nat → Bool) × (Nat → FV) × (Nat → Bool)
def AB.tp (a9 : AB) : Nat → Nat := a9.1
def AB.w_tp (a9 : AB) (x9 : Nat → Nat) : AB := (x9, a9.2)
def AB.tl (a9 : AB) : Nat := a9.2.1
def AB.w_tl (a9 : AB) (x9 : Nat) : AB := (a9.1, x9, a9.2.2)
def AB.tb (a9 : AB) : Nat → Nat := a9.2.2.1
def AB.w_tb (a9 : AB) (x9 : Nat → Nat) : AB := (a9.1, a9.2.1, x9, a9.2.2.2)
def AB.ol (a9 : AB) : Nat := a9.2.2.2.1
def AB.w_ol (a9 : AB) (x9 : Nat) : AB := (a9.1, a9.2.1, a9.2.2.1, x9, a9.2.2.2.2)
def AB.dv (a9 : AB) : Nat := a9.2.2.2.2.1
def AB.w_dv (a9 : AB) (x9 : Nat) : AB := (a9.1, a9.2.1, a9.2.2.1, a9.2.2.2.1, x9, a9.2.2.2.2.2)
def AB.ct (a9 : AB) : Nat := a9.2.2.2.2.2.1
def AB.w_ct (a9 : AB) (x9 : Nat) : AB := (a9.1, a9.2.1, a9.2.2.1, a9.2.2.2.1, a9.2.2.2.2.1, x9, a9.2.2.2.2.2.2)
def AB.us (a9 : AB) : Nat := a9.2.2.2.2.2.2.1
def AB.w_us (a9 : AB) (x9 : Nat) : AB := (a9.1, a9.2.1, a9.2.2.1, a9.2.2.2.1, a9.2.2.2.2.1, a9.2.2.2.2.2.1, x9, a9.2.2.2.2.2.2.2)
def AB.fr (a9 : AB) : Nat := a9.2.2.2.2.2.2.2.1
def AB.w_fr (a9 : AB) (x9 : Nat) : AB := (a9.1, a9.2.1, a9.2.2.1, a9.2.2.2.1, a9.2.2.2.2.1, a9.2.2.2.2.2.1, a9.2.2.2.2.2.2.1, x9, a9.2.2.2.2.2.2.2.2)
def AB.tk (a9 : AB) : Nat := a9.2.2.2.2.2.2.2.2.1
def AB.w_tk (a9 : AB) (x9 : Nat) : AB := (a9.1, a9.2.1, a9.2.2.1, a9.2.2.2.1, a9.2.2.2.2.1, a9.2.2.2.2.2.1, a9.2.2.2.2.2.2.1, a9.2.2.2.2.2.2.2.1, x9, a9.2.2.2.2.2.2.2.2.2)
def AB.rm (a9 : AB) : Nat := a9.2.2.2.2.2.2.2.2.2.1
def AB.w_rm (a9 : AB) (x9 : Nat) : AB := (a9.1, a9.2.1, a9.2.2.1, a9.2.2.2.1, a9.2.2.2.2.1, a9.2.2.2.2.2.1, a9.2.2.2.2.2.2.1, a9.2.2.2.2.2.2.2.1, a9.2.2.2.2.2.2.2.2.1, x9, a9.2.2.2.2.2.2.2.2.2.2)
def AB.fw (a9 : AB) : Nat := a9.2.2.2.2.2.2.2.2.2.2.1
def AB.w_fw (a9 : AB) (x9 : Nat) : AB := (a9.1, a9.2.1, a9.2.2.1, a9.2.2.2.1, a9.2.2.2.2.1, a9.2.2.2.2.2.1, a9.2.2.2.2.2.2.1, a9.2.2.2.2.2.2.2.1, a9.2.2.2.2.2.2.2.2.1, a9.2.2.2.2.2.2.2.2.2.1, x9, a9.2.2.2.2.2.2.2.2.2.2.2)
def AB.T (a9 : AB) : TRE := a9.2.2.2.2.2.2.2.2.2.2.2.1
def AB.w_T (a9 : AB) (x9 : TRE) : AB := (a9.1, a9.2.1, a9.2.2.1, a9.2.2.2.1, a9.2.2.2.2.1, a9.2.2.2.2.2.1, a9.2.2.2.2.2.2.1, a9.2.2.2.2.2.2.2.1, a9.2.2.2.2.2.2.2.2.1, a9.2.2.2.2.2.2.2.2.2.1, a9.2.2.2.2.2.2.2.2.2.2.1, x9, a9.2.2.2.2.2.2.2.2.2.2.2.2)
def AB.O (a9 : AB) : TRE := a9.2.2.2.2.2.2.2.2.2.2.2.2.1
def AB.w_O (a9 : AB) (x9 : TRE) : AB := (a9.1, a9.2.1, a9.2.2.1, a9.2.2.2.1, a9.2.2.2.2.1, a9.2.2.2.2.2.1, a9.2.2.2.2.2.2.1, a9.2.2.2.2.2.2.2.1, a9.2.2.2.2.2.2.2.2.1, a9.2.2.2.2.2.2.2.2.2.1, a9.2.2.2.2.2.2.2.2.2.2.1, a9.2.2.2.2.2.2.2.2.2.2.2.1, x9, a9.2.2.2.2.2.2.2.2.2.2.2.2.2)
def AB.S (a9 : AB) : Nat → Bool := a9.2.2.2.2.2.2.2.2.2.2.2.2.2.1
def AB.w_S (a9 : AB) (x9 : Nat → Bool) : AB := (a9.1, a9.2.1, a9.2.2.1, a9.2.2.2.1, a9.2.2.2.2.1, a9.2.2.2.2.2.1, a9.2.2.2.2.2.2.1, a9.2.2.2.2.2.2.2.1, a9.2.2.2.2.2.2.2.2.1, a9.2.2.2.2.2.2.2.2.2.1, a9.2.2.2.2.2.2.2.2.2.2.1, a9.2.2.2.2.2.2.2.2.2.2.2.1, a9.2.2.2.2.2.2.2.2.2.2.2.2.1, x9, a9.2.2.2.2.2.2.2.2.2.2.2.2.2.2)
def AB.F (a9 : AB) : Nat → FV := a9.2.2.2.2.2.2.2.2.2.2.2.2.2.2.1
def AB.w_F (a9 : AB) (x9 : Nat → FV) : AB := (a9.1, a9.2.1, a9.2.2.1, a9.2.2.2.1, a9.2.2.2.2.1, a9.2.2.2.2.2.1, a9.2.2.2.2.2.2.1, a9.2.2.2.2.2.2.2.1, a9.2.2.2.2.2.2.2.2.1, a9.2.2.2.2.2.2.2.2.2.1, a9.2.2.2.2.2.2.2.2.2.2.1, a9.2.2.2.2.2.2.2.2.2.2.2.1, a9.2.2.2.2.2.2.2.2.2.2.2.2.1, a9.2.2.2.2.2.2.2.2.2.2.2.2.2.1, x9, a9.2.2.2.2.2.2.2.2.2.2.2.2.2.2.2)
def AB.rn (a9 : AB) : Nat → Bool := a9.2.2.2.2.2.2.2.2.2.2.2.2.2.2.2
def AB.w_rn (a9 : AB) (x9 : Nat → Bool) : AB := (a9.1, a9.2.1, a9.2.2.1, a9.2.2.2.1, a9.2.2.2.2.1, a9.2.2.2.2.2.1, a9.2.2.2.2.2.2.1, a9.2.2.2.2.2.2.2.1, a9.2.2.2.2.2.2.2.2.1, a9.2.2.2.2.2.2.2.2.2.1, a9.2.2.2.2.2.2.2.2.2.2.1, a9.2.2.2.2.2.2.2.2.2.2.2.1, a9.2.2.2.2.2.2.2.2.2.2.2.2.1, a9.2.2.2.2.2.2.2.2.2.2.2.2.2.1, a9.2.2.2.2.2.2.2.2.2.2.2.2.2.2.1, x9)
noncomputable section
/-- how many numbers names can have; kept shut, so that nothing counts through them -/
def NNM : Nat := Classical.choose (⟨256 ^ 20, rfl⟩ : ∃ N : Nat, N = 256 ^ 20)
theorem NNM_eq : NNM = 256 ^ 20 := Classical.choose_spec (⟨256 ^ 20, rfl⟩ : ∃ N : Nat, N = 256 ^ 20)
/-- how many names -/
def nmc (e : Nat → Nat) : Nat := sm (fun n => if e n = 0 then 0 else 1) NNM
/-- how many names lead to x -/
def lkc (T : TRE) (x : Nat) : Nat := sm (fun d => sm (fun n => if T.ent d n = x then 1 else 0) NNM) 251
/-- blocks that an id counts for -/
def blF (f : FV) : Nat := if f.sm = 1 then 1 else 1 + sm (fun k => if f.has k = 0 then 0 else 1) 412 + nfN ((f.sz + 255) / 256)
def blT (T : TRE) (id : Nat) : Nat := if T.kd id = 2 then 1 + nmc (T.ent id) else if T.kd id = 0 then 0 else blF (T.fil id)
def inT (T : TRE) : Nat := sm (fun j => blT T (1 + j)) 250
/-- blocks that it has -/
def ndH (h : Nat → Nat) (j : Nat) : Nat := if sm (fun i => if h (20 + 56 * j + i) = 0 then 0 else 1) 56 = 0 then 0 else 1
def auF (f : FV) : Nat := 1 + sm (fun k => if f.has k = 0 then 0 else 1) 412 + sm (ndH f.has) 7 + (if sm (fun j => ndH f.has (2 + j)) 5 = 0 then 0 else 1)
def auT (T : TRE) (id : Nat) : Nat := if T.kd id = 2 then 1 + nmc (T.ent id) else if T.kd id = 0 then 0 else auF (T.fil id)
/-- what mounting would find -/
def AB.R (A : AB) : TRE := A.O.wFil (fun i => if A.S i = true then A.F i else A.O.fil i)
/-- the lowest id that has what p says -/
def lwS (p : Nat → Bool) : Nat → Nat → Nat
  | 0, _ => 0
  | m + 1, i => if p i = true then i else lwS p m (i + 1)
def AB.lw (A : AB) : Nat := lwS (fun i => decide (A.T.kd i = 0 ∧ A.O.kd i = 0)) 250 1
/-- names on the tape -/
def nmOk (tp : Nat → Nat) (tl at' n : Nat) : Bool := decide (1 ≤ n ∧ n ≤ 20 ∧ at' + n ≤ tl ∧ ∀ i, i < n → tp (at' + i) ≠ 0 ∧ tp (at' + i) ≠ 47)
def nmN (tp : Nat → Nat) (at' n : Nat) : Nat := hn 256 (fun i => if i < n then tp (at' + i) else 0) 20
/-- a name's bytes, its length, its rank -/
def nmB (n i : Nat) : Nat := n / 256 ^ (19 - i) % 256
def nmL (n : Nat) : Nat := sm (fun i => if nmB n i = 0 then 0 else 1) 20
def rnk (e : Nat → Nat) (n : Nat) : Nat := sm (fun i => if e i = 0 then 0 else 1) n
def nth (e : Nat → Nat) (k : Nat) : Nat → Nat
  | 0 => 0
  | n + 1 => if e n ≠ 0 ∧ rnk e n = k then n else nth e k n
def isInW (T : TRE) (top : Nat) : Nat → Nat → Bool
  | 0, _ => false
  | m + 1, d => if d = top then true else if d = 1 then false else isInW T top m (T.par d)
def isInB (T : TRE) (d top : Nat) : Bool := isInW T top 250 d
/-- the power fails; a checkpoint -/
def AB.off (A : AB) : AB := (A.w_dv 1).w_ct 0
def AB.ckpW (A : AB) (u : Nat) : AB := (((((A.w_us u).w_fr 0).w_tk (A.tk + 1)).w_O A.T).w_S (fun _ => false)).w_rn (fun _ => false)
def AB.ckp (A : AB) : AB := A.ckpW (inT A.T)
/-- an answer: what is thrown, the value, the state -/
abbrev ANS : Type := Nat × Nat × AB
def neg1 : Nat := 4294967295
def pwrA (A : AB) (k : ANS) : ANS := if A.dv = 2 then k else (2, 0, A)
def cutA (A : AB) (k : ANS) : ANS := if A.ct = 1 then (3, 0, A.off) else k
def rsvC (n : Nat) (A : AB) : Nat := if A.us + A.fr + n ≤ A.rm then 0 else if A.ct = 1 then 3 else if inT A.T + n ≤ A.rm then 0 else 2
def rsvB (n : Nat) (A : AB) : AB := if A.us + A.fr + n ≤ A.rm then A.w_fr (A.fr + n) else if A.ct = 1 then A.off else if inT A.T + n ≤ A.rm then A.ckp.w_fr n else A.ckp
def rsvA (n : Nat) (A : AB) (k : AB → ANS) : ANS := if rsvC n A = 0 then k (rsvB n A) else (rsvC n A, 0, rsvB n A)
/-- trees as they become -/
def TRE.put (T : TRE) (d n id : Nat) : TRE := T.wEnt (va_up T.ent d (va_up (T.ent d) n id))
def TRE.loose (T : TRE) (f : Nat) : TRE := if 1 < T.lk f then T.wLk (va_up T.lk f (T.lk f - 1)) else T.wKd (va_up T.kd f 0)
def looseN (T : TRE) (f : Nat) : Nat := if 1 < T.lk f then T.lk f - 1 else 0
def TRE.lose (T : TRE) (x : Nat) : TRE := if T.kd x = 2 then T.wKd (va_up T.kd x 0) else T.loose x
def TRE.moved (T : TRE) (x d : Nat) : TRE := if T.kd x = 1 then T else T.wPar (va_up T.par x d)
def TRE.ren (T : TRE) (d n o m id lost : Nat) : TRE := (((if lost = 0 then T.put d n 0 else ((T.put d n 0).put o m 0).lose lost)).put o m id).moved id o
/-- the calls -/
def formatA (s r : Nat) (A : AB) : ANS :=
  if 48 ≤ s ∧ s ≤ 128 ∧ 24 ≤ r ∧ r ≤ s / 2 then
    (0, 0, ((((((A.w_dv 2).w_ct 0).w_fw 0).w_rm (16 * (s - r))).w_tk 0).w_T (newT (TRE.of (fun _ => 0) (fun _ => 0) (fun _ => 0) (fun _ _ => 0) (fun _ => FV.of 0 1 (fun _ => 0) (fun _ => 0))) 1 2 0)).ckp)
  else (1, 0, A)
def wdB (a j : Nat) : Nat := a / 256 ^ (3 - j) % 256
def feedA (w : Nat → Nat) (A : AB) : ANS :=
  if 2040 < A.tl then (2, 0, A)
  else (0, A.tl + 20, (A.w_tp (fun i => if A.tl ≤ i ∧ i < A.tl + 20 then gb w (i - A.tl) else A.tp i)).w_tl (A.tl + 20))
def tapeA (k : Nat) (A : AB) : ANS := if 0 < k ∧ k < A.tl then (0, k, A.w_tl k) else (0, A.tl, A)
def makeA (kd d n : Nat) (A : AB) : ANS := pwrA A
  (if ¬ (nmOk A.tp A.tl 0 n = true ∧ A.T.kd d = 2) then (1, 0, A.w_tl 0)
  else if A.T.ent d (nmN A.tp 0 n) ≠ 0 ∨ 48 ≤ nmc (A.T.ent d) ∨ A.lw = 0 then (2, 0, A.w_tl 0)
  else rsvA 4 (A.w_tl 0) (fun B => (0, B.lw, (B.w_T ((newT B.T B.lw kd (if kd = 2 then d else 1)).put d (nmN A.tp 0 n) B.lw)).w_rn (va_up B.rn B.lw true))))
def linkA (f d n : Nat) (A : AB) : ANS := pwrA A
  (if ¬ (nmOk A.tp A.tl 0 n = true ∧ A.T.kd d = 2 ∧ A.T.kd f = 1) then (1, 0, A.w_tl 0)
  else if A.T.ent d (nmN A.tp 0 n) ≠ 0 ∨ 48 ≤ nmc (A.T.ent d) then (2, 0, A.w_tl 0)
  else rsvA 4 (A.w_tl 0) (fun B => (0, B.T.lk f + 1, (B.w_T ((B.T.put d (nmN A.tp 0 n) f).wLk (va_up B.T.lk f (B.T.lk f + 1)))).w_rn (va_up B.rn f true))))
def unlinkA (d n : Nat) (A : AB) : ANS := pwrA A
  (if ¬ (nmOk A.tp A.tl 0 n = true ∧ A.T.kd d = 2) then (1, 0, A.w_tl 0)
  else if A.T.kd (A.T.ent d (nmN A.tp 0 n)) ≠ 1 then (2, 0, A.w_tl 0)
  else rsvA 4 (A.w_tl 0) (fun B => (0, looseN B.T (A.T.ent d (nmN A.tp 0 n)), (B.w_T ((B.T.put d (nmN A.tp 0 n) 0).loose (A.T.ent d (nmN A.tp 0 n)))).w_rn (va_up B.rn (A.T.ent d (nmN A.tp 0 n)) true))))
def rmdirA (d n : Nat) (A : AB) : ANS := pwrA A
  (if ¬ (nmOk A.tp A.tl 0 n = true ∧ A.T.kd d = 2) then (1, 0, A.w_tl 0)
  else if A.T.kd (A.T.ent d (nmN A.tp 0 n)) ≠ 2 ∨ 0 < nmc (A.T.ent (A.T.ent d (nmN A.tp 0 n))) then (2, 0, A.w_tl 0)
  else rsvA 4 (A.w_tl 0) (fun B => (0, 0, B.w_T ((B.T.put d (nmN A.tp 0 n) 0).wKd (va_up B.T.kd (A.T.ent d (nmN A.tp 0 n)) 0)))))
def renA2 (d o n1 n2 id lost : Nat) (A : AB) : ANS :=
  if id ≠ 0 ∧ id = lost then rsvA 8 (A.w_tl 0) (fun B => (0, 0, B))
  else if id = 0 ∨ (lost ≠ 0 ∧ (A.T.kd lost ≠ A.T.kd id ∨ (A.T.kd lost = 2 ∧ 0 < nmc (A.T.ent lost)))) ∨ (lost = 0 ∧ o ≠ d ∧ 48 ≤ nmc (A.T.ent o)) ∨ (A.T.kd id = 2 ∧ isInB A.T o id = true) then (2, 0, A.w_tl 0)
  else rsvA 8 (A.w_tl 0) (fun B => (0, 0, (B.w_T (B.T.ren d n1 o n2 id lost)).w_rn (va_up (if lost = 0 then B.rn else va_up B.rn lost true) id true)))
def renA (d n o m : Nat) (A : AB) : ANS := pwrA A
  (if ¬ (nmOk A.tp A.tl 0 n = true ∧ nmOk A.tp A.tl n m = true ∧ A.T.kd d = 2 ∧ A.T.kd o = 2) then (1, 0, A.w_tl 0)
  else renA2 d o (nmN A.tp 0 n) (nmN A.tp n m) (A.T.ent d (nmN A.tp 0 n)) (A.T.ent o (nmN A.tp n m)) A)
def findA (d n : Nat) (A : AB) : ANS := pwrA A
  (if ¬ (nmOk A.tp A.tl 0 n = true ∧ A.T.kd d = 2) then (1, 0, A.w_tl 0)
  else (0, if A.T.ent d (nmN A.tp 0 n) = 0 then neg1 else A.T.ent d (nmN A.tp 0 n), A.w_tl 0))
def writeA (f at' n : Nat) (A : AB) : ANS := pwrA A
  (if ¬ (A.T.kd f = 1 ∧ 1 ≤ n ∧ n ≤ 2000 ∧ n ≤ A.tl ∧ at' + n ≤ 100000) then (1, 0, A.w_tl 0)
  else rsvA ((at' + n - 1) / 256 - at' / 256 + 7) (A.w_tl 0) (fun B => (0, (wrF (B.T.fil f) at' n A.tp).sz, B.w_T (B.T.wFil (va_up B.T.fil f (wrF (B.T.fil f) at' n A.tp))))))
def readL (f : FV) (at' n : Nat) : Nat := if at' < f.sz then (if f.sz - at' < n then f.sz - at' else n) else 0
def readA (f at' n : Nat) (A : AB) : ANS := pwrA A
  (if ¬ (A.T.kd f = 1 ∧ 1 ≤ n ∧ n ≤ 2000 ∧ at' < 2 ^ 31) then (1, 0, A)
  else (0, readL (A.T.fil f) at' n, (A.w_tb (fun j => (A.T.fil f).byt (at' + j))).w_ol (readL (A.T.fil f) at' n)))
def byteA (i : Nat) (A : AB) : ANS := if i < 2 ^ 31 then (0, if i < A.ol then A.tb i else neg1, A) else (1, 0, A)
def truncA (f s : Nat) (A : AB) : ANS := pwrA A
  (if ¬ (A.T.kd f = 1 ∧ s ≤ 100000) then (1, 0, A)
  else rsvA 6 A (fun B => (0, 0, B.w_T (B.T.wFil (va_up B.T.fil f (trF (B.T.fil f) s))))))
def fsyncA (f : Nat) (A : AB) : ANS := pwrA A
  (if A.T.kd f ≠ 1 then (1, 0, A)
  else rsvA 1 A (fun B => cutA B (if B.rn f = true then (0, 1, B.ckp) else (0, 0, (B.w_S (va_up B.S f true)).w_F (va_up B.F f (B.T.fil f))))))
def syncA (A : AB) : ANS := pwrA A (cutA A (0, A.tk + 1, A.ckp))
def nameA (d k : Nat) (A : AB) : ANS := pwrA A
  (if ¬ (A.T.kd d = 2 ∧ k < 2 ^ 31) then (1, 0, A)
  else if k < nmc (A.T.ent d) then (0, nmL (nth (A.T.ent d) k NNM), (A.w_tb (nmB (nth (A.T.ent d) k NNM))).w_ol (nmL (nth (A.T.ent d) k NNM)))
  else (0, neg1, A.w_ol 0))
def lookN (T : TRE) (id w : Nat) : Nat :=
  if T.kd id = 0 then 0 else if w = 0 then T.kd id
  else if w = 1 then (if T.kd id = 1 then (T.fil id).sz else nmc (T.ent id))
  else if w = 2 then (if T.kd id = 1 then T.lk id else 1)
  else if w = 3 then blT T id
  else (if T.kd id = 1 ∧ (T.fil id).sm = 1 then 1 else 0)
def lookA (id w : Nat) (A : AB) : ANS := pwrA A (if 4 < w then (1, 0, A) else (0, lookN A.T id w, A))
def idsT (T : TRE) : Nat := sm (fun j => if T.kd (1 + j) = 0 then 0 else 1) 250
def countA (w : Nat) (A : AB) : ANS := pwrA A (if 5 < w then (1, 0, A) else (0, if w = 0 then inT A.T else if w = 1 then A.us else if w = 2 then A.fr else if w = 3 then A.tk else if w = 4 then A.fw else idsT A.T, A))
def powerA (A : AB) : ANS := pwrA A (0, 0, A.off)
def cutcA (b : Nat) (A : AB) : ANS := pwrA A (0, 0, A.w_ct (if b < 2 ^ 31 then 1 else 0))
def fwdN (A : AB) : Nat := sm (fun j => if A.S (1 + j) = true then 1 else 0) 250
def mountA (A : AB) : ANS := if A.dv = 1 then (0, fwdN A, (((A.w_T A.R).w_dv 2).w_fw (fwdN A)).ckp) else (2, 0, A)
def cleanA (A : AB) : ANS := pwrA A (0, 0, A)
def faultsA (A : AB) : ANS := pwrA A (0, 0, A)
end
