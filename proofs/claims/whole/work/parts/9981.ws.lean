/-! THE START: what the constructors leave, as flat memories -/
def kfR (ad : Nat → Nat) (f : Nat → Int) : Nat → List kF → List Value
  | _, [] => []
  | j, d :: t => kfv ad f j d :: kfR ad f (j + 1) t
theorem kfR_eq (ad : Nat → Nat) (f : Nat → Int) : ∀ (fs : List kF) (j : Nat), kfR ad f j fs = fs.mapIdx (fun i d => kfv ad f (j + i) d) := by
  intro fs
  induction fs with
  | nil => intro j; rfl
  | cons d t ih =>
    intro j
    rw [List.mapIdx_cons]
    show kfv ad f j d :: kfR ad f (j + 1) t = _
    rw [ih (j + 1)]
    congr 1
    congr 1
    funext i d'
    rw [show j + 1 + i = j + (i + 1) by omega]
def kER (ad : Nat → Nat) (cA : Nat → ClassId) (f : Nat → Int) : kD → va_E
  | .inl q => kE ad cA f (.inl q)
  | .inr (ci, fs) => .inr (ci, kfR ad f 0 fs)
theorem kER_eq (ad : Nat → Nat) (cA : Nat → ClassId) (f : Nat → Int) (d : kD) : kER ad cA f d = kE ad cA f d := by
  cases d with
  | inl q => rfl
  | inr q =>
    obtain ⟨ci, fs⟩ := q
    show Sum.inr (ci, kfR ad f 0 fs) = Sum.inr (ci, fs.mapIdx (fun j d => kfv ad f j d))
    rw [kfR_eq]
    simp only [Nat.zero_add]
def kwR (ad : Nat → Nat) (cA : Nat → ClassId) (σ : kM) : Nat → List kD → va_W
  | _, [] => []
  | k, d :: t => (ad k, kER ad cA (σ k) d) :: kwR ad cA σ (k + 1) t
theorem kwR_eq (ad : Nat → Nat) (cA : Nat → ClassId) (σ : kM) : ∀ (Y : List kD) (k : Nat), kwR ad cA σ k Y = Y.mapIdx (fun i d => (ad (k + i), kE ad cA (σ (k + i)) d)) := by
  intro Y
  induction Y with
  | nil => intro k; rfl
  | cons d t ih =>
    intro k
    rw [List.mapIdx_cons]
    show (ad k, kER ad cA (σ k) d) :: kwR ad cA σ (k + 1) t = _
    rw [ih (k + 1), kER_eq]
    congr 1
    congr 1
    funext i d'
    rw [show k + 1 + i = k + (i + 1) by omega]
theorem kws_R (ad : Nat → Nat) (cA : Nat → ClassId) (Y : List kD) (σ : kM) : kws ad cA Y σ = kwR ad cA σ 0 Y := by
  rw [kwR_eq]
  unfold kws
  simp only [Nat.zero_add]
def k0C : kM := fun k => if k = 0 then (fun j => if j = 2 then -1 else 0) else if k = 3 then (fun j => if j = 0 then 3 else 0) else if k = 12 then (fun j => if j = 2 then -1 else 0) else if k = 13 then (fun j => if j = 0 then 3 else 0) else if k = 57 then (fun j => if j = 3 then -1 else 0) else fun _ => 0
def k0M : kM := fun k => if k = 0 then (fun j => if j = 1 then 3 else if j = 4 then -1 else if j = 5 then -1 else if j = 6 then -1 else if j = 11 then -1 else 0) else fun _ => 0
def kaC (a : Nat) (b : Nat → Nat) : Nat → Nat
  | 0 => a
  | i + 1 => b i
