def k0C : kM := fun k j => if k = 0 ∧ j = 2 then -1 else if k = 3 ∧ j = 0 then 3 else if k = 12 ∧ j = 2 then -1 else if k = 13 ∧ j = 0 then 3 else if k = 57 ∧ j = 3 then -1 else 0
def kaC (a : Nat) (b : Nat → Nat) : Nat → Nat
  | 0 => a
  | i + 1 => b i
set_option maxHeartbeats 4000000 in
set_option maxRecDepth 8000 in
theorem kws_C (cA : Nat → ClassId) (a : Nat) (b : Nat → Nat) : kws (kaC a b) cA yC k0C = no_P cA a b := by rfl
def k0M : kM := fun k j => if k = 0 ∧ j = 1 then 3 else if k = 0 ∧ j = 4 then -1 else if k = 0 ∧ j = 5 then -1 else if k = 0 ∧ j = 6 then -1 else if k = 0 ∧ j = 11 then -1 else 0
def kaM (a : Nat) (b : Nat → Nat) : Nat → Nat
  | 0 => a
  | i + 1 => b i
set_option maxHeartbeats 4000000 in
set_option maxRecDepth 8000 in
theorem kws_M (cA : Nat → ClassId) (a : Nat) (b : Nat → Nat) : kws (kaM a b) cA yM k0M = no_M cA a b := by rfl
