/-! THE LAW: each call keeps the relation (program wip/whole/gen/laws.py) -/
/-- what is owed from a place of the law, with j ints of the script behind it -/
def lK (x : kX) (Q : State → Prop) (i pc j : Nat) : Prop := ∀ (cells slots : Nat) (σ μ : kM) (z : Nat → Int), cells ≤ 100 + j → slots ≤ 40000 + 4 * j → RR σ μ → KW x cells slots Q (kmg σ μ z) pc (lL i) []
section LLS
variable {x : kX} {l0 : Launch} {cells slots : Nat} {Q : State → Prop} {N : Nat} {xs : Nat → Int32} {i : Nat} {σ μ : kM} {z : Nat → Int}
theorem ls_feed (C : kCx x code "PoetFinesLaw" (some .boolean) kcl yL 7 l0 room_1) (hs : kSc x N xs) (hE : kEx (kSt0 x)) (hfl : l0.stackTraces = false) (hi : i + 6 ≤ N) (hN : N ≤ 3072) (hc : cells ≤ 100 + i) (hsl : slots ≤ 40000 + 4 * i) (hR : RR σ μ) (kk : lK x Q i 2491 (i + 6)) : KW x cells slots Q (kmg σ μ z) 208 (lL i) [] := by
  have q : (cells ≤ 601024 ∧ slots ≤ 7293034) ∧ cells ≤ 100 + (i + 6) ∧ slots ≤ 40000 + 4 * (i + 6) := ⟨⟨by omega, by omega⟩, by omega, by omega⟩
  obtain ⟨q1, q2, q3⟩ := q
  obtain ⟨N0, M, tp, L, PH, PF, PB, h⟩ := hR
  obtain ⟨b, σ', μ', h1, h2, h3⟩ := op_feed h ((xs (i + 1)).toInt) ((xs (i + 2)).toInt) ((xs (i + 3)).toInt) ((xs (i + 4)).toInt) ((xs (i + 5)).toInt)
  exact lc_feed C hs hE hi q1 h1 h2 (kk _ _ _ _ _ q2 q3 ⟨_, _, _, _, _, _, _, h3⟩)
theorem ls_state (C : kCx x code "PoetFinesLaw" (some .boolean) kcl yL 7 l0 room_1) (hs : kSc x N xs) (hE : kEx (kSt0 x)) (hfl : l0.stackTraces = false) (hi : i + 6 ≤ N) (hN : N ≤ 3072) (hc : cells ≤ 100 + i) (hsl : slots ≤ 40000 + 4 * i) (hR : RR σ μ) (kk : lK x Q i 2491 (i + 6)) : KW x cells slots Q (kmg σ μ z) 281 (lL i) [] := by
  have q : (cells + 1 ≤ 601024 ∧ slots + 6 ≤ 7293034) ∧ cells + 1 ≤ 100 + (i + 6) ∧ slots + 6 ≤ 40000 + 4 * (i + 6) := ⟨⟨by omega, by omega⟩, by omega, by omega⟩
  obtain ⟨q1, q2, q3⟩ := q
  obtain ⟨N0, M, tp, L, PH, PF, PB, h⟩ := hR
  obtain ⟨N1, M1, tp1, L1, PH1, PF1, PB1, oc, σ', b, μ', h1, h2, h3, h4⟩ := op_state h ((xs (i + 1)).toInt)
  rcases h4 with ⟨E, rfl, rfl, ht⟩ | ⟨rfl, ht⟩
  · exact lc_state C hs hE hi q1 (he1_L_state l0 hfl h1 μ z) h2 ht (fun h => absurd h (by decide)) (kk _ _ _ _ _ q2 q3 ⟨_, _, _, _, _, _, _, h3⟩)
  · exact lc_state C hs hE hi q1 (hx_L_state l0 hfl h1 μ z) h2 ht (fun _ => kup_eq _ _ _) (kk _ _ _ _ _ q2 q3 ⟨_, _, _, _, _, _, _, h3⟩)
theorem ls_fault (C : kCx x code "PoetFinesLaw" (some .boolean) kcl yL 7 l0 room_1) (hs : kSc x N xs) (hE : kEx (kSt0 x)) (hfl : l0.stackTraces = false) (hi : i + 6 ≤ N) (hN : N ≤ 3072) (hc : cells ≤ 100 + i) (hsl : slots ≤ 40000 + 4 * i) (hR : RR σ μ) (kk : lK x Q i 2491 (i + 6)) : KW x cells slots Q (kmg σ μ z) 337 (lL i) [] := by
  have q : (cells ≤ 601024 ∧ slots ≤ 7293034) ∧ cells ≤ 100 + (i + 6) ∧ slots ≤ 40000 + 4 * (i + 6) := ⟨⟨by omega, by omega⟩, by omega, by omega⟩
  obtain ⟨q1, q2, q3⟩ := q
  obtain ⟨N0, M, tp, L, PH, PF, PB, h⟩ := hR
  obtain ⟨b, μ', h1, h2, h3⟩ := op_fault h
  exact lc_fault C hs hE hi q1 h1 h2 (kk _ _ _ _ _ q2 q3 ⟨_, _, _, _, _, _, _, h3⟩)
theorem ls_count (C : kCx x code "PoetFinesLaw" (some .boolean) kcl yL 7 l0 room_1) (hs : kSc x N xs) (hE : kEx (kSt0 x)) (hfl : l0.stackTraces = false) (hi : i + 6 ≤ N) (hN : N ≤ 3072) (hc : cells ≤ 100 + i) (hsl : slots ≤ 40000 + 4 * i) (hR : RR σ μ) (kk : lK x Q i 2491 (i + 6)) : KW x cells slots Q (kmg σ μ z) 350 (lL i) [] := by
  have q : (cells + 1 ≤ 601024 ∧ slots + 6 ≤ 7293034) ∧ cells + 1 ≤ 100 + (i + 6) ∧ slots + 6 ≤ 40000 + 4 * (i + 6) := ⟨⟨by omega, by omega⟩, by omega, by omega⟩
  obtain ⟨q1, q2, q3⟩ := q
  obtain ⟨N0, M, tp, L, PH, PF, PB, h⟩ := hR
  obtain ⟨oc, σ', b, μ', h1, h2, h3, h4⟩ := op_count h ((xs (i + 1)).toInt)
  rcases h4 with ⟨E, rfl, rfl, ht⟩ | ⟨rfl, ht⟩
  · exact lc_count C hs hE hi q1 (he1_L_count l0 hfl h1 μ z) h2 ht (fun h => absurd h (by decide)) (kk _ _ _ _ _ q2 q3 ⟨_, _, _, _, _, _, _, h3⟩)
  · exact lc_count C hs hE hi q1 (hx_L_count l0 hfl h1 μ z) h2 ht (fun _ => kup_eq _ _ _) (kk _ _ _ _ _ q2 q3 ⟨_, _, _, _, _, _, _, h3⟩)
theorem ls_person (C : kCx x code "PoetFinesLaw" (some .boolean) kcl yL 7 l0 room_1) (hs : kSc x N xs) (hE : kEx (kSt0 x)) (hfl : l0.stackTraces = false) (hi : i + 6 ≤ N) (hN : N ≤ 3072) (hc : cells ≤ 100 + i) (hsl : slots ≤ 40000 + 4 * i) (hR : RR σ μ) (kk : lK x Q i 2491 (i + 6)) : KW x cells slots Q (kmg σ μ z) 406 (lL i) [] := by
  have q : (cells + 2 ≤ 601024 ∧ slots + 12 ≤ 7293034) ∧ cells + 2 ≤ 100 + (i + 6) ∧ slots + 12 ≤ 40000 + 4 * (i + 6) := ⟨⟨by omega, by omega⟩, by omega, by omega⟩
  obtain ⟨q1, q2, q3⟩ := q
  obtain ⟨N0, M, tp, L, PH, PF, PB, h⟩ := hR
  obtain ⟨oc, σ', b, μ', h1, h2, h3, h4⟩ := op_person h ((xs (i + 1)).toInt) ((xs (i + 2)).toInt) (k32_rng _)
  rcases h4 with ⟨E, rfl, rfl, ht⟩ | ⟨rfl, ht⟩
  · exact lc_person C hs hE hi q1 (he1_L_person l0 hfl h1 μ z) h2 ht (fun h => absurd h (by decide)) (kk _ _ _ _ _ q2 q3 ⟨_, _, _, _, _, _, _, h3⟩)
  · exact lc_person C hs hE hi q1 (hx_L_person l0 hfl h1 μ z) h2 ht (fun _ => kup_eq _ _ _) (kk _ _ _ _ _ q2 q3 ⟨_, _, _, _, _, _, _, h3⟩)
theorem ls_poet (C : kCx x code "PoetFinesLaw" (some .boolean) kcl yL 7 l0 room_1) (hs : kSc x N xs) (hE : kEx (kSt0 x)) (hfl : l0.stackTraces = false) (hi : i + 6 ≤ N) (hN : N ≤ 3072) (hc : cells ≤ 100 + i) (hsl : slots ≤ 40000 + 4 * i) (hR : RR σ μ) (kk : lK x Q i 2491 (i + 6)) : KW x cells slots Q (kmg σ μ z) 474 (lL i) [] := by
  have q : (cells + 2 ≤ 601024 ∧ slots + 12 ≤ 7293034) ∧ cells + 2 ≤ 100 + (i + 6) ∧ slots + 12 ≤ 40000 + 4 * (i + 6) := ⟨⟨by omega, by omega⟩, by omega, by omega⟩
  obtain ⟨q1, q2, q3⟩ := q
  obtain ⟨N0, M, tp, L, PH, PF, PB, h⟩ := hR
  obtain ⟨oc, σ', b, μ', h1, h2, h3, h4⟩ := op_poet h ((xs (i + 1)).toInt) ((xs (i + 2)).toInt)
  rcases h4 with ⟨E, rfl, rfl, ht⟩ | ⟨rfl, ht⟩
  · exact lc_poet C hs hE hi q1 (he1_L_poet l0 hfl h1 μ z) h2 ht (fun h => absurd h (by decide)) (kk _ _ _ _ _ q2 q3 ⟨_, _, _, _, _, _, _, h3⟩)
  · exact lc_poet C hs hE hi q1 (hx_L_poet l0 hfl h1 μ z) h2 ht (fun _ => kup_eq _ _ _) (kk _ _ _ _ _ q2 q3 ⟨_, _, _, _, _, _, _, h3⟩)
theorem ls_line (C : kCx x code "PoetFinesLaw" (some .boolean) kcl yL 7 l0 room_1) (hs : kSc x N xs) (hE : kEx (kSt0 x)) (hfl : l0.stackTraces = false) (hi : i + 6 ≤ N) (hN : N ≤ 3072) (hc : cells ≤ 100 + i) (hsl : slots ≤ 40000 + 4 * i) (hR : RR σ μ) (kk : lK x Q i 2491 (i + 6)) : KW x cells slots Q (kmg σ μ z) 542 (lL i) [] := by
  have q : (cells + 3 ≤ 601024 ∧ slots + 18 ≤ 7293034) ∧ cells + 3 ≤ 100 + (i + 6) ∧ slots + 18 ≤ 40000 + 4 * (i + 6) := ⟨⟨by omega, by omega⟩, by omega, by omega⟩
  obtain ⟨q1, q2, q3⟩ := q
  obtain ⟨N0, M, tp, L, PH, PF, PB, h⟩ := hR
  obtain ⟨oc, σ', b, μ', h1, h2, h3, h4⟩ := op_line h ((xs (i + 1)).toInt) ((xs (i + 2)).toInt) ((xs (i + 3)).toInt)
  rcases h4 with ⟨E, rfl, rfl, ht⟩ | ⟨rfl, ht⟩
  · exact lc_line C hs hE hi q1 (he1_L_line l0 hfl h1 μ z) h2 ht (fun h => absurd h (by decide)) (kk _ _ _ _ _ q2 q3 ⟨_, _, _, _, _, _, _, h3⟩)
  · exact lc_line C hs hE hi q1 (hx_L_line l0 hfl h1 μ z) h2 ht (fun _ => kup_eq _ _ _) (kk _ _ _ _ _ q2 q3 ⟨_, _, _, _, _, _, _, h3⟩)
theorem ls_years (C : kCx x code "PoetFinesLaw" (some .boolean) kcl yL 7 l0 room_1) (hs : kSc x N xs) (hE : kEx (kSt0 x)) (hfl : l0.stackTraces = false) (hi : i + 6 ≤ N) (hN : N ≤ 3072) (hc : cells ≤ 100 + i) (hsl : slots ≤ 40000 + 4 * i) (hR : RR σ μ) (kk : lK x Q i 2491 (i + 6)) : KW x cells slots Q (kmg σ μ z) 622 (lL i) [] := by
  have q : (cells ≤ 601024 ∧ slots ≤ 7293034) ∧ cells ≤ 100 + (i + 6) ∧ slots ≤ 40000 + 4 * (i + 6) := ⟨⟨by omega, by omega⟩, by omega, by omega⟩
  obtain ⟨q1, q2, q3⟩ := q
  obtain ⟨N0, M, tp, L, PH, PF, PB, h⟩ := hR
  obtain ⟨b, σ', μ', h1, h2, h3⟩ := op_years h ((xs (i + 1)).toInt)
  exact lc_years C hs hE hi q1 h1 h2 (kk _ _ _ _ _ q2 q3 ⟨_, _, _, _, _, _, _, h3⟩)
theorem ls_burn (C : kCx x code "PoetFinesLaw" (some .boolean) kcl yL 7 l0 room_1) (hs : kSc x N xs) (hE : kEx (kSt0 x)) (hfl : l0.stackTraces = false) (hi : i + 6 ≤ N) (hN : N ≤ 3072) (hc : cells ≤ 100 + i) (hsl : slots ≤ 40000 + 4 * i) (hR : RR σ μ) (kk : lK x Q i 2491 (i + 6)) : KW x cells slots Q (kmg σ μ z) 647 (lL i) [] := by
  have q : (cells + 1 ≤ 601024 ∧ slots + 6 ≤ 7293034) ∧ cells + 1 ≤ 100 + (i + 6) ∧ slots + 6 ≤ 40000 + 4 * (i + 6) := ⟨⟨by omega, by omega⟩, by omega, by omega⟩
  obtain ⟨q1, q2, q3⟩ := q
  obtain ⟨N0, M, tp, L, PH, PF, PB, h⟩ := hR
  obtain ⟨oc, σ', b, μ', h1, h2, h3, h4⟩ := op_burn h ((xs (i + 1)).toInt)
  rcases h4 with ⟨E, rfl, rfl, ht⟩ | ⟨rfl, ht⟩
  · exact lc_burn C hs hE hi q1 (he1_L_burn l0 hfl h1 μ z) h2 ht (fun h => absurd h (by decide)) (kk _ _ _ _ _ q2 q3 ⟨_, _, _, _, _, _, _, h3⟩)
  · exact lc_burn C hs hE hi q1 (hx_L_burn l0 hfl h1 μ z) h2 ht (fun _ => kup_eq _ _ _) (kk _ _ _ _ _ q2 q3 ⟨_, _, _, _, _, _, _, h3⟩)
theorem ls_rewrite (C : kCx x code "PoetFinesLaw" (some .boolean) kcl yL 7 l0 room_1) (hs : kSc x N xs) (hE : kEx (kSt0 x)) (hfl : l0.stackTraces = false) (hi : i + 6 ≤ N) (hN : N ≤ 3072) (hc : cells ≤ 100 + i) (hsl : slots ≤ 40000 + 4 * i) (hR : RR σ μ) (kk : lK x Q i 2491 (i + 6)) : KW x cells slots Q (kmg σ μ z) 703 (lL i) [] := by
  have q : (cells + 2 ≤ 601024 ∧ slots + 12 ≤ 7293034) ∧ cells + 2 ≤ 100 + (i + 6) ∧ slots + 12 ≤ 40000 + 4 * (i + 6) := ⟨⟨by omega, by omega⟩, by omega, by omega⟩
  obtain ⟨q1, q2, q3⟩ := q
  obtain ⟨N0, M, tp, L, PH, PF, PB, h⟩ := hR
  obtain ⟨oc, σ', b, μ', h1, h2, h3, h4⟩ := op_rewrite h ((xs (i + 1)).toInt) ((xs (i + 2)).toInt) ((xs (i + 3)).toInt)
  rcases h4 with ⟨E, rfl, rfl, ht⟩ | ⟨rfl, ht⟩
  · exact lc_rewrite C hs hE hi q1 (he1_L_rewrite l0 hfl h1 μ z) h2 ht (fun h => absurd h (by decide)) (kk _ _ _ _ _ q2 q3 ⟨_, _, _, _, _, _, _, h3⟩)
  · exact lc_rewrite C hs hE hi q1 (hx_L_rewrite l0 hfl h1 μ z) h2 ht (fun _ => kup_eq _ _ _) (kk _ _ _ _ _ q2 q3 ⟨_, _, _, _, _, _, _, h3⟩)
theorem ls_pardon (C : kCx x code "PoetFinesLaw" (some .boolean) kcl yL 7 l0 room_1) (hs : kSc x N xs) (hE : kEx (kSt0 x)) (hfl : l0.stackTraces = false) (hi : i + 6 ≤ N) (hN : N ≤ 3072) (hc : cells ≤ 100 + i) (hsl : slots ≤ 40000 + 4 * i) (hR : RR σ μ) (kk : lK x Q i 2491 (i + 6)) : KW x cells slots Q (kmg σ μ z) 783 (lL i) [] := by
  have q : (cells + 1 ≤ 601024 ∧ slots + 6 ≤ 7293034) ∧ cells + 1 ≤ 100 + (i + 6) ∧ slots + 6 ≤ 40000 + 4 * (i + 6) := ⟨⟨by omega, by omega⟩, by omega, by omega⟩
  obtain ⟨q1, q2, q3⟩ := q
  obtain ⟨N0, M, tp, L, PH, PF, PB, h⟩ := hR
  obtain ⟨oc, σ', b, μ', h1, h2, h3, h4⟩ := op_pardon h ((xs (i + 1)).toInt)
  rcases h4 with ⟨E, rfl, rfl, ht⟩ | ⟨rfl, ht⟩
  · exact lc_pardon C hs hE hi q1 (he1_L_pardon l0 hfl h1 μ z) h2 ht (fun h => absurd h (by decide)) (kk _ _ _ _ _ q2 q3 ⟨_, _, _, _, _, _, _, h3⟩)
  · exact lc_pardon C hs hE hi q1 (hx_L_pardon l0 hfl h1 μ z) h2 ht (fun _ => kup_eq _ _ _) (kk _ _ _ _ _ q2 q3 ⟨_, _, _, _, _, _, _, h3⟩)
theorem ls_fill (C : kCx x code "PoetFinesLaw" (some .boolean) kcl yL 7 l0 room_1) (hs : kSc x N xs) (hE : kEx (kSt0 x)) (hfl : l0.stackTraces = false) (hi : i + 6 ≤ N) (hN : N ≤ 3072) (hc : cells ≤ 100 + i) (hsl : slots ≤ 40000 + 4 * i) (hR : RR σ μ) (kk : lK x Q i 2491 (i + 6)) : KW x cells slots Q (kmg σ μ z) 839 (lL i) [] := by
  have q : (cells + 1 ≤ 601024 ∧ slots + 6 ≤ 7293034) ∧ cells + 1 ≤ 100 + (i + 6) ∧ slots + 6 ≤ 40000 + 4 * (i + 6) := ⟨⟨by omega, by omega⟩, by omega, by omega⟩
  obtain ⟨q1, q2, q3⟩ := q
  obtain ⟨N0, M, tp, L, PH, PF, PB, h⟩ := hR
  obtain ⟨oc, σ', b, μ', h1, h2, h3, h4⟩ := op_fill h ((xs (i + 1)).toInt) ((xs (i + 2)).toInt)
  rcases h4 with ⟨E, rfl, rfl, ht⟩ | ⟨rfl, ht⟩
  · exact lc_fill C hs hE hi q1 (he1_L_fill l0 hfl h1 μ z) h2 ht (fun h => absurd h (by decide)) (kk _ _ _ _ _ q2 q3 ⟨_, _, _, _, _, _, _, h3⟩)
  · exact lc_fill C hs hE hi q1 (hx_L_fill l0 hfl h1 μ z) h2 ht (fun _ => kup_eq _ _ _) (kk _ _ _ _ _ q2 q3 ⟨_, _, _, _, _, _, _, h3⟩)
theorem ls_heal (C : kCx x code "PoetFinesLaw" (some .boolean) kcl yL 7 l0 room_1) (hs : kSc x N xs) (hE : kEx (kSt0 x)) (hfl : l0.stackTraces = false) (hi : i + 6 ≤ N) (hN : N ≤ 3072) (hc : cells ≤ 100 + i) (hsl : slots ≤ 40000 + 4 * i) (hR : RR σ μ) (kk : lK x Q i 2491 (i + 6)) : KW x cells slots Q (kmg σ μ z) 907 (lL i) [] := by
  have q : (cells + 1 ≤ 601024 ∧ slots + 6 ≤ 7293034) ∧ cells + 1 ≤ 100 + (i + 6) ∧ slots + 6 ≤ 40000 + 4 * (i + 6) := ⟨⟨by omega, by omega⟩, by omega, by omega⟩
  obtain ⟨q1, q2, q3⟩ := q
  obtain ⟨N0, M, tp, L, PH, PF, PB, h⟩ := hR
  obtain ⟨oc, σ', b, μ', h1, h2, h3, h4⟩ := op_heal h ((xs (i + 1)).toInt)
  rcases h4 with ⟨E, rfl, rfl, ht⟩ | ⟨rfl, ht⟩
  · exact lc_heal C hs hE hi q1 (he1_L_heal l0 hfl h1 μ z) h2 ht (fun h => absurd h (by decide)) (kk _ _ _ _ _ q2 q3 ⟨_, _, _, _, _, _, _, h3⟩)
  · exact lc_heal C hs hE hi q1 (hx_L_heal l0 hfl h1 μ z) h2 ht (fun _ => kup_eq _ _ _) (kk _ _ _ _ _ q2 q3 ⟨_, _, _, _, _, _, _, h3⟩)
theorem ls_undo (C : kCx x code "PoetFinesLaw" (some .boolean) kcl yL 7 l0 room_1) (hs : kSc x N xs) (hE : kEx (kSt0 x)) (hfl : l0.stackTraces = false) (hi : i + 6 ≤ N) (hN : N ≤ 3072) (hc : cells ≤ 100 + i) (hsl : slots ≤ 40000 + 4 * i) (hR : RR σ μ) (kk : lK x Q i 2491 (i + 6)) : KW x cells slots Q (kmg σ μ z) 963 (lL i) [] := by
  have q : (cells ≤ 601024 ∧ slots ≤ 7293034) ∧ cells ≤ 100 + (i + 6) ∧ slots ≤ 40000 + 4 * (i + 6) := ⟨⟨by omega, by omega⟩, by omega, by omega⟩
  obtain ⟨q1, q2, q3⟩ := q
  obtain ⟨N0, M, tp, L, PH, PF, PB, h⟩ := hR
  obtain ⟨b, σ', μ', h1, h2, h3⟩ := op_undo h 
  exact lc_undo C hs hE hi q1 h1 h2 (kk _ _ _ _ _ q2 q3 ⟨_, _, _, _, _, _, _, h3⟩)
theorem ls_then (C : kCx x code "PoetFinesLaw" (some .boolean) kcl yL 7 l0 room_1) (hs : kSc x N xs) (hE : kEx (kSt0 x)) (hfl : l0.stackTraces = false) (hi : i + 6 ≤ N) (hN : N ≤ 3072) (hc : cells ≤ 100 + i) (hsl : slots ≤ 40000 + 4 * i) (hR : RR σ μ) (kk : lK x Q i 2491 (i + 6)) : KW x cells slots Q (kmg σ μ z) 976 (lL i) [] := by
  have q : (cells + 3 ≤ 601024 ∧ slots + 18 ≤ 7293034) ∧ cells + 3 ≤ 100 + (i + 6) ∧ slots + 18 ≤ 40000 + 4 * (i + 6) := ⟨⟨by omega, by omega⟩, by omega, by omega⟩
  obtain ⟨q1, q2, q3⟩ := q
  obtain ⟨N0, M, tp, L, PH, PF, PB, h⟩ := hR
  obtain ⟨oc, σ', b, μ', h1, h2, h3, h4⟩ := op_then h ((xs (i + 1)).toInt) ((xs (i + 2)).toInt) ((xs (i + 3)).toInt)
  rcases h4 with ⟨E, rfl, ⟨rfl, ht⟩ | ⟨rfl, ht⟩⟩ | ⟨rfl, ht⟩
  · exact lc_then C hs hE hi q1 (he1_L_then l0 hfl h1 μ z) h2 ht (fun h => absurd h (by decide)) (kk _ _ _ _ _ q2 q3 ⟨_, _, _, _, _, _, _, h3⟩)
  · exact lc_then C hs hE hi q1 (he2_L_then l0 hfl h1 μ z) h2 ht (fun h => absurd h (by decide)) (kk _ _ _ _ _ q2 q3 ⟨_, _, _, _, _, _, _, h3⟩)
  · exact lc_then C hs hE hi q1 (hx_L_then l0 hfl h1 μ z) h2 ht (fun _ => kup_eq _ _ _) (kk _ _ _ _ _ q2 q3 ⟨_, _, _, _, _, _, _, h3⟩)
theorem ls_poetThen (C : kCx x code "PoetFinesLaw" (some .boolean) kcl yL 7 l0 room_1) (hs : kSc x N xs) (hE : kEx (kSt0 x)) (hfl : l0.stackTraces = false) (hi : i + 6 ≤ N) (hN : N ≤ 3072) (hc : cells ≤ 100 + i) (hsl : slots ≤ 40000 + 4 * i) (hR : RR σ μ) (kk : lK x Q i 2491 (i + 6)) : KW x cells slots Q (kmg σ μ z) 1056 (lL i) [] := by
  have q : (cells + 3 ≤ 601024 ∧ slots + 18 ≤ 7293034) ∧ cells + 3 ≤ 100 + (i + 6) ∧ slots + 18 ≤ 40000 + 4 * (i + 6) := ⟨⟨by omega, by omega⟩, by omega, by omega⟩
  obtain ⟨q1, q2, q3⟩ := q
  obtain ⟨N0, M, tp, L, PH, PF, PB, h⟩ := hR
  obtain ⟨oc, σ', b, μ', h1, h2, h3, h4⟩ := op_poetThen h ((xs (i + 1)).toInt) ((xs (i + 2)).toInt) ((xs (i + 3)).toInt)
  rcases h4 with ⟨E, rfl, ⟨rfl, ht⟩ | ⟨rfl, ht⟩⟩ | ⟨rfl, ht⟩
  · exact lc_poetThen C hs hE hi q1 (he1_L_poetThen l0 hfl h1 μ z) h2 ht (fun h => absurd h (by decide)) (kk _ _ _ _ _ q2 q3 ⟨_, _, _, _, _, _, _, h3⟩)
  · exact lc_poetThen C hs hE hi q1 (he2_L_poetThen l0 hfl h1 μ z) h2 ht (fun h => absurd h (by decide)) (kk _ _ _ _ _ q2 q3 ⟨_, _, _, _, _, _, _, h3⟩)
  · exact lc_poetThen C hs hE hi q1 (hx_L_poetThen l0 hfl h1 μ z) h2 ht (fun _ => kup_eq _ _ _) (kk _ _ _ _ _ q2 q3 ⟨_, _, _, _, _, _, _, h3⟩)
theorem ls_hurt (C : kCx x code "PoetFinesLaw" (some .boolean) kcl yL 7 l0 room_1) (hs : kSc x N xs) (hE : kEx (kSt0 x)) (hfl : l0.stackTraces = false) (hi : i + 6 ≤ N) (hN : N ≤ 3072) (hc : cells ≤ 100 + i) (hsl : slots ≤ 40000 + 4 * i) (hR : RR σ μ) (kk : lK x Q i 2491 (i + 6)) : KW x cells slots Q (kmg σ μ z) 1136 (lL i) [] := by
  have q : (cells + 2 ≤ 601024 ∧ slots + 12 ≤ 7293034) ∧ cells + 2 ≤ 100 + (i + 6) ∧ slots + 12 ≤ 40000 + 4 * (i + 6) := ⟨⟨by omega, by omega⟩, by omega, by omega⟩
  obtain ⟨q1, q2, q3⟩ := q
  obtain ⟨N0, M, tp, L, PH, PF, PB, h⟩ := hR
  obtain ⟨oc, σ', b, μ', h1, h2, h3, h4⟩ := op_hurt h ((xs (i + 1)).toInt) ((xs (i + 2)).toInt)
  rcases h4 with ⟨E, rfl, rfl, ht⟩ | ⟨rfl, ht⟩
  · exact lc_hurt C hs hE hi q1 (he1_L_hurt l0 hfl h1 μ z) h2 ht (fun h => absurd h (by decide)) (kk _ _ _ _ _ q2 q3 ⟨_, _, _, _, _, _, _, h3⟩)
  · exact lc_hurt C hs hE hi q1 (hx_L_hurt l0 hfl h1 μ z) h2 ht (fun _ => kup_eq _ _ _) (kk _ _ _ _ _ q2 q3 ⟨_, _, _, _, _, _, _, h3⟩)
theorem ls_later (C : kCx x code "PoetFinesLaw" (some .boolean) kcl yL 7 l0 room_1) (hs : kSc x N xs) (hE : kEx (kSt0 x)) (hfl : l0.stackTraces = false) (hi : i + 6 ≤ N) (hN : N ≤ 3072) (hc : cells ≤ 100 + i) (hsl : slots ≤ 40000 + 4 * i) (hR : RR σ μ) (kk : lK x Q i 2491 (i + 6)) : KW x cells slots Q (kmg σ μ z) 1204 (lL i) [] := by
  have q : (cells + 2 ≤ 601024 ∧ slots + 12 ≤ 7293034) ∧ cells + 2 ≤ 100 + (i + 6) ∧ slots + 12 ≤ 40000 + 4 * (i + 6) := ⟨⟨by omega, by omega⟩, by omega, by omega⟩
  obtain ⟨q1, q2, q3⟩ := q
  obtain ⟨N0, M, tp, L, PH, PF, PB, h⟩ := hR
  obtain ⟨oc, σ', b, μ', h1, h2, h3, h4⟩ := op_later h ((xs (i + 1)).toInt) ((xs (i + 2)).toInt)
  rcases h4 with ⟨E, rfl, ⟨rfl, ht⟩ | ⟨rfl, ht⟩⟩ | ⟨rfl, ht⟩
  · exact lc_later C hs hE hi q1 (he1_L_later l0 hfl h1 μ z) h2 ht (fun h => absurd h (by decide)) (kk _ _ _ _ _ q2 q3 ⟨_, _, _, _, _, _, _, h3⟩)
  · exact lc_later C hs hE hi q1 (he2_L_later l0 hfl h1 μ z) h2 ht (fun h => absurd h (by decide)) (kk _ _ _ _ _ q2 q3 ⟨_, _, _, _, _, _, _, h3⟩)
  · exact lc_later C hs hE hi q1 (hx_L_later l0 hfl h1 μ z) h2 ht (fun _ => kup_eq _ _ _) (kk _ _ _ _ _ q2 q3 ⟨_, _, _, _, _, _, _, h3⟩)
theorem ls_worst (C : kCx x code "PoetFinesLaw" (some .boolean) kcl yL 7 l0 room_1) (hs : kSc x N xs) (hE : kEx (kSt0 x)) (hfl : l0.stackTraces = false) (hi : i + 6 ≤ N) (hN : N ≤ 3072) (hc : cells ≤ 100 + i) (hsl : slots ≤ 40000 + 4 * i) (hR : RR σ μ) (kk : lK x Q i 2491 (i + 6)) : KW x cells slots Q (kmg σ μ z) 1272 (lL i) [] := by
  have q : (cells + 2 ≤ 601024 ∧ slots + 12 ≤ 7293034) ∧ cells + 2 ≤ 100 + (i + 6) ∧ slots + 12 ≤ 40000 + 4 * (i + 6) := ⟨⟨by omega, by omega⟩, by omega, by omega⟩
  obtain ⟨q1, q2, q3⟩ := q
  obtain ⟨N0, M, tp, L, PH, PF, PB, h⟩ := hR
  obtain ⟨oc, σ', b, μ', h1, h2, h3, h4⟩ := op_worst h ((xs (i + 1)).toInt) ((xs (i + 2)).toInt)
  rcases h4 with ⟨E, rfl, ⟨rfl, ht⟩ | ⟨rfl, ht⟩⟩ | ⟨rfl, ht⟩
  · exact lc_worst C hs hE hi q1 (he1_L_worst l0 hfl h1 μ z) h2 ht (fun h => absurd h (by decide)) (kk _ _ _ _ _ q2 q3 ⟨_, _, _, _, _, _, _, h3⟩)
  · exact lc_worst C hs hE hi q1 (he2_L_worst l0 hfl h1 μ z) h2 ht (fun h => absurd h (by decide)) (kk _ _ _ _ _ q2 q3 ⟨_, _, _, _, _, _, _, h3⟩)
  · exact lc_worst C hs hE hi q1 (hx_L_worst l0 hfl h1 μ z) h2 ht (fun _ => kup_eq _ _ _) (kk _ _ _ _ _ q2 q3 ⟨_, _, _, _, _, _, _, h3⟩)
theorem ls_probe (C : kCx x code "PoetFinesLaw" (some .boolean) kcl yL 7 l0 room_1) (hs : kSc x N xs) (hE : kEx (kSt0 x)) (hfl : l0.stackTraces = false) (hi : i + 6 ≤ N) (hN : N ≤ 3072) (hc : cells ≤ 100 + i) (hsl : slots ≤ 40000 + 4 * i) (hR : RR σ μ) (kk : lK x Q i 2491 (i + 6)) : KW x cells slots Q (kmg σ μ z) 1340 (lL i) [] := by
  have q : (cells + 4 ≤ 601024 ∧ slots + 24 ≤ 7293034) ∧ cells + 4 ≤ 100 + (i + 6) ∧ slots + 24 ≤ 40000 + 4 * (i + 6) := ⟨⟨by omega, by omega⟩, by omega, by omega⟩
  obtain ⟨q1, q2, q3⟩ := q
  obtain ⟨N0, M, tp, L, PH, PF, PB, h⟩ := hR
  obtain ⟨oc, σ', b, μ', h1, h2, h3, h4⟩ := op_probe h ((xs (i + 1)).toInt) ((xs (i + 2)).toInt) ((xs (i + 3)).toInt) ((xs (i + 4)).toInt)
  rcases h4 with ⟨E, rfl, ⟨rfl, ht⟩ | ⟨rfl, ht⟩⟩ | ⟨rfl, ht⟩
  · exact lc_probe C hs hE hi q1 (he1_L_probe l0 hfl h1 μ z) h2 ht (fun h => absurd h (by decide)) (kk _ _ _ _ _ q2 q3 ⟨_, _, _, _, _, _, _, h3⟩)
  · exact lc_probe C hs hE hi q1 (he2_L_probe l0 hfl h1 μ z) h2 ht (fun h => absurd h (by decide)) (kk _ _ _ _ _ q2 q3 ⟨_, _, _, _, _, _, _, h3⟩)
  · exact lc_probe C hs hE hi q1 (hx_L_probe l0 hfl h1 μ z) h2 ht (fun _ => kup_eq _ _ _) (kk _ _ _ _ _ q2 q3 ⟨_, _, _, _, _, _, _, h3⟩)
theorem ls_safe (C : kCx x code "PoetFinesLaw" (some .boolean) kcl yL 7 l0 room_1) (hs : kSc x N xs) (hE : kEx (kSt0 x)) (hfl : l0.stackTraces = false) (hi : i + 6 ≤ N) (hN : N ≤ 3072) (hc : cells ≤ 100 + i) (hsl : slots ≤ 40000 + 4 * i) (hR : RR σ μ) (kk : lK x Q i 2491 (i + 6)) : KW x cells slots Q (kmg σ μ z) 1432 (lL i) [] := by
  have q : (cells + 2 ≤ 601024 ∧ slots + 12 ≤ 7293034) ∧ cells + 2 ≤ 100 + (i + 6) ∧ slots + 12 ≤ 40000 + 4 * (i + 6) := ⟨⟨by omega, by omega⟩, by omega, by omega⟩
  obtain ⟨q1, q2, q3⟩ := q
  obtain ⟨N0, M, tp, L, PH, PF, PB, h⟩ := hR
  obtain ⟨oc, σ', b, μ', h1, h2, h3, h4⟩ := op_safe h ((xs (i + 1)).toInt) ((xs (i + 2)).toInt)
  rcases h4 with ⟨E, rfl, ⟨rfl, ht⟩ | ⟨rfl, ht⟩⟩ | ⟨rfl, ht⟩
  · exact lc_safe C hs hE hi q1 (he1_L_safe l0 hfl h1 μ z) h2 ht (fun h => absurd h (by decide)) (kk _ _ _ _ _ q2 q3 ⟨_, _, _, _, _, _, _, h3⟩)
  · exact lc_safe C hs hE hi q1 (he2_L_safe l0 hfl h1 μ z) h2 ht (fun h => absurd h (by decide)) (kk _ _ _ _ _ q2 q3 ⟨_, _, _, _, _, _, _, h3⟩)
  · exact lc_safe C hs hE hi q1 (hx_L_safe l0 hfl h1 μ z) h2 ht (fun _ => kup_eq _ _ _) (kk _ _ _ _ _ q2 q3 ⟨_, _, _, _, _, _, _, h3⟩)
theorem ls_sonnet (C : kCx x code "PoetFinesLaw" (some .boolean) kcl yL 7 l0 room_1) (hs : kSc x N xs) (hE : kEx (kSt0 x)) (hfl : l0.stackTraces = false) (hi : i + 6 ≤ N) (hN : N ≤ 3072) (hc : cells ≤ 100 + i) (hsl : slots ≤ 40000 + 4 * i) (hR : RR σ μ) (kk : lK x Q i 2491 (i + 6)) : KW x cells slots Q (kmg σ μ z) 1500 (lL i) [] := by
  have q : (cells + 2 ≤ 601024 ∧ slots + 12 ≤ 7293034) ∧ cells + 2 ≤ 100 + (i + 6) ∧ slots + 12 ≤ 40000 + 4 * (i + 6) := ⟨⟨by omega, by omega⟩, by omega, by omega⟩
  obtain ⟨q1, q2, q3⟩ := q
  obtain ⟨N0, M, tp, L, PH, PF, PB, h⟩ := hR
  obtain ⟨oc, σ', b, μ', h1, h2, h3, h4⟩ := op_sonnet h ((xs (i + 1)).toInt) ((xs (i + 2)).toInt)
  rcases h4 with ⟨E, rfl, rfl, ht⟩ | ⟨rfl, ht⟩
  · exact lc_sonnet C hs hE hi q1 (he1_L_sonnet l0 hfl h1 μ z) h2 ht (fun h => absurd h (by decide)) (kk _ _ _ _ _ q2 q3 ⟨_, _, _, _, _, _, _, h3⟩)
  · exact lc_sonnet C hs hE hi q1 (hx_L_sonnet l0 hfl h1 μ z) h2 ht (fun _ => kup_eq _ _ _) (kk _ _ _ _ _ q2 q3 ⟨_, _, _, _, _, _, _, h3⟩)
theorem ls_action (C : kCx x code "PoetFinesLaw" (some .boolean) kcl yL 7 l0 room_1) (hs : kSc x N xs) (hE : kEx (kSt0 x)) (hfl : l0.stackTraces = false) (hi : i + 6 ≤ N) (hN : N ≤ 3072) (hc : cells ≤ 100 + i) (hsl : slots ≤ 40000 + 4 * i) (hR : RR σ μ) (kk : lK x Q i 2491 (i + 6)) : KW x cells slots Q (kmg σ μ z) 1568 (lL i) [] := by
  have q : (cells + 1 ≤ 601024 ∧ slots + 6 ≤ 7293034) ∧ cells + 1 ≤ 100 + (i + 6) ∧ slots + 6 ≤ 40000 + 4 * (i + 6) := ⟨⟨by omega, by omega⟩, by omega, by omega⟩
  obtain ⟨q1, q2, q3⟩ := q
  obtain ⟨N0, M, tp, L, PH, PF, PB, h⟩ := hR
  obtain ⟨oc, σ', b, μ', h1, h2, h3, h4⟩ := op_action h ((xs (i + 1)).toInt)
  rcases h4 with ⟨E, rfl, rfl, ht⟩ | ⟨rfl, ht⟩
  · exact lc_action C hs hE hi q1 (he1_L_action l0 hfl h1 μ z) h2 ht (fun h => absurd h (by decide)) (kk _ _ _ _ _ q2 q3 ⟨_, _, _, _, _, _, _, h3⟩)
  · exact lc_action C hs hE hi q1 (hx_L_action l0 hfl h1 μ z) h2 ht (fun _ => kup_eq _ _ _) (kk _ _ _ _ _ q2 q3 ⟨_, _, _, _, _, _, _, h3⟩)
theorem ls_readings (C : kCx x code "PoetFinesLaw" (some .boolean) kcl yL 7 l0 room_1) (hs : kSc x N xs) (hE : kEx (kSt0 x)) (hfl : l0.stackTraces = false) (hi : i + 6 ≤ N) (hN : N ≤ 3072) (hc : cells ≤ 100 + i) (hsl : slots ≤ 40000 + 4 * i) (hR : RR σ μ) (kk : lK x Q i 2491 (i + 6)) : KW x cells slots Q (kmg σ μ z) 1624 (lL i) [] := by
  have q : (cells + 1 ≤ 601024 ∧ slots + 6 ≤ 7293034) ∧ cells + 1 ≤ 100 + (i + 6) ∧ slots + 6 ≤ 40000 + 4 * (i + 6) := ⟨⟨by omega, by omega⟩, by omega, by omega⟩
  obtain ⟨q1, q2, q3⟩ := q
  obtain ⟨N0, M, tp, L, PH, PF, PB, h⟩ := hR
  obtain ⟨oc, σ', b, μ', h1, h2, h3, h4⟩ := op_readings h ((xs (i + 1)).toInt)
  rcases h4 with ⟨E, rfl, rfl, ht⟩ | ⟨rfl, ht⟩
  · exact lc_readings C hs hE hi q1 (he1_L_readings l0 hfl h1 μ z) h2 ht (fun h => absurd h (by decide)) (kk _ _ _ _ _ q2 q3 ⟨_, _, _, _, _, _, _, h3⟩)
  · exact lc_readings C hs hE hi q1 (hx_L_readings l0 hfl h1 μ z) h2 ht (fun _ => kup_eq _ _ _) (kk _ _ _ _ _ q2 q3 ⟨_, _, _, _, _, _, _, h3⟩)
theorem ls_best (C : kCx x code "PoetFinesLaw" (some .boolean) kcl yL 7 l0 room_1) (hs : kSc x N xs) (hE : kEx (kSt0 x)) (hfl : l0.stackTraces = false) (hi : i + 6 ≤ N) (hN : N ≤ 3072) (hc : cells ≤ 100 + i) (hsl : slots ≤ 40000 + 4 * i) (hR : RR σ μ) (kk : lK x Q i 2491 (i + 6)) : KW x cells slots Q (kmg σ μ z) 1680 (lL i) [] := by
  have q : (cells + 2 ≤ 601024 ∧ slots + 12 ≤ 7293034) ∧ cells + 2 ≤ 100 + (i + 6) ∧ slots + 12 ≤ 40000 + 4 * (i + 6) := ⟨⟨by omega, by omega⟩, by omega, by omega⟩
  obtain ⟨q1, q2, q3⟩ := q
  obtain ⟨N0, M, tp, L, PH, PF, PB, h⟩ := hR
  obtain ⟨oc, σ', b, μ', h1, h2, h3, h4⟩ := op_best h ((xs (i + 1)).toInt) ((xs (i + 2)).toInt)
  rcases h4 with ⟨E, rfl, ⟨rfl, ht⟩ | ⟨rfl, ht⟩⟩ | ⟨rfl, ht⟩
  · exact lc_best C hs hE hi q1 (he1_L_best l0 hfl h1 μ z) h2 ht (fun h => absurd h (by decide)) (kk _ _ _ _ _ q2 q3 ⟨_, _, _, _, _, _, _, h3⟩)
  · exact lc_best C hs hE hi q1 (he2_L_best l0 hfl h1 μ z) h2 ht (fun h => absurd h (by decide)) (kk _ _ _ _ _ q2 q3 ⟨_, _, _, _, _, _, _, h3⟩)
  · exact lc_best C hs hE hi q1 (hx_L_best l0 hfl h1 μ z) h2 ht (fun _ => kup_eq _ _ _) (kk _ _ _ _ _ q2 q3 ⟨_, _, _, _, _, _, _, h3⟩)
theorem ls_feel (C : kCx x code "PoetFinesLaw" (some .boolean) kcl yL 7 l0 room_1) (hs : kSc x N xs) (hE : kEx (kSt0 x)) (hfl : l0.stackTraces = false) (hi : i + 6 ≤ N) (hN : N ≤ 3072) (hc : cells ≤ 100 + i) (hsl : slots ≤ 40000 + 4 * i) (hR : RR σ μ) (kk : lK x Q i 2491 (i + 6)) : KW x cells slots Q (kmg σ μ z) 1748 (lL i) [] := by
  have q : (cells + 1 ≤ 601024 ∧ slots + 6 ≤ 7293034) ∧ cells + 1 ≤ 100 + (i + 6) ∧ slots + 6 ≤ 40000 + 4 * (i + 6) := ⟨⟨by omega, by omega⟩, by omega, by omega⟩
  obtain ⟨q1, q2, q3⟩ := q
  obtain ⟨N0, M, tp, L, PH, PF, PB, h⟩ := hR
  obtain ⟨oc, σ', b, μ', h1, h2, h3, h4⟩ := op_feel h ((xs (i + 1)).toInt) ((xs (i + 2)).toInt) (if (xs (i + 3)).toInt = 0 then 0 else 1)
  rcases h4 with ⟨E, rfl, rfl, ht⟩ | ⟨rfl, ht⟩
  · exact lc_feel C hs hE hi (v := if (xs (i + 3)).toInt = 0 then 0 else 1) rfl q1 (he1_L_feel l0 hfl h1 μ z) h2 ht (fun h => absurd h (by decide)) (kk _ _ _ _ _ q2 q3 ⟨_, _, _, _, _, _, _, h3⟩)
  · exact lc_feel C hs hE hi (v := if (xs (i + 3)).toInt = 0 then 0 else 1) rfl q1 (hx_L_feel l0 hfl h1 μ z) h2 ht (fun _ => kup_eq _ _ _) (kk _ _ _ _ _ q2 q3 ⟨_, _, _, _, _, _, _, h3⟩)
theorem ls_forget (C : kCx x code "PoetFinesLaw" (some .boolean) kcl yL 7 l0 room_1) (hs : kSc x N xs) (hE : kEx (kSt0 x)) (hfl : l0.stackTraces = false) (hi : i + 6 ≤ N) (hN : N ≤ 3072) (hc : cells ≤ 100 + i) (hsl : slots ≤ 40000 + 4 * i) (hR : RR σ μ) (kk : lK x Q i 2491 (i + 6)) : KW x cells slots Q (kmg σ μ z) 1844 (lL i) [] := by
  have q : (cells ≤ 601024 ∧ slots ≤ 7293034) ∧ cells ≤ 100 + (i + 6) ∧ slots ≤ 40000 + 4 * (i + 6) := ⟨⟨by omega, by omega⟩, by omega, by omega⟩
  obtain ⟨q1, q2, q3⟩ := q
  obtain ⟨N0, M, tp, L, PH, PF, PB, h⟩ := hR
  obtain ⟨σ', μ', h1, h2, h3⟩ := op_forget h
  exact lc_forget C hs hE hi q1 h1 h2 (kk _ _ _ _ _ q2 q3 ⟨_, _, _, _, _, _, _, h3⟩)
theorem ls_truths (C : kCx x code "PoetFinesLaw" (some .boolean) kcl yL 7 l0 room_1) (hs : kSc x N xs) (hE : kEx (kSt0 x)) (hfl : l0.stackTraces = false) (hi : i + 6 ≤ N) (hN : N ≤ 3072) (hc : cells ≤ 100 + i) (hsl : slots ≤ 40000 + 4 * i) (hR : RR σ μ) (kk : lK x Q i 2491 (i + 6)) : KW x cells slots Q (kmg σ μ z) 1855 (lL i) [] := by
  have q : (cells + 1 ≤ 601024 ∧ slots + 6 ≤ 7293034) ∧ cells + 1 ≤ 100 + (i + 6) ∧ slots + 6 ≤ 40000 + 4 * (i + 6) := ⟨⟨by omega, by omega⟩, by omega, by omega⟩
  obtain ⟨q1, q2, q3⟩ := q
  obtain ⟨N0, M, tp, L, PH, PF, PB, h⟩ := hR
  obtain ⟨oc, σ', b, μ', h1, h2, h3, h4⟩ := op_truths h ((xs (i + 1)).toInt)
  rcases h4 with ⟨E, rfl, rfl, ht⟩ | ⟨rfl, ht⟩
  · exact lc_truths C hs hE hi q1 (he1_L_truths l0 hfl h1 μ z) h2 ht (fun h => absurd h (by decide)) (kk _ _ _ _ _ q2 q3 ⟨_, _, _, _, _, _, _, h3⟩)
  · exact lc_truths C hs hE hi q1 (hx_L_truths l0 hfl h1 μ z) h2 ht (fun _ => kup_eq _ _ _) (kk _ _ _ _ _ q2 q3 ⟨_, _, _, _, _, _, _, h3⟩)
theorem ls_listen (C : kCx x code "PoetFinesLaw" (some .boolean) kcl yL 7 l0 room_1) (hs : kSc x N xs) (hE : kEx (kSt0 x)) (hfl : l0.stackTraces = false) (hi : i + 6 ≤ N) (hN : N ≤ 3072) (hc : cells ≤ 100 + i) (hsl : slots ≤ 40000 + 4 * i) (hR : RR σ μ) (kk : lK x Q i 2491 (i + 6)) : KW x cells slots Q (kmg σ μ z) 1911 (lL i) [] := by
  have q : (cells + 1 ≤ 601024 ∧ slots + 6 ≤ 7293034) ∧ cells + 1 ≤ 100 + (i + 6) ∧ slots + 6 ≤ 40000 + 4 * (i + 6) := ⟨⟨by omega, by omega⟩, by omega, by omega⟩
  obtain ⟨q1, q2, q3⟩ := q
  obtain ⟨N0, M, tp, L, PH, PF, PB, h⟩ := hR
  obtain ⟨oc, σ', b, μ', h1, h2, h3, h4⟩ := op_listen h ((xs (i + 1)).toInt)
  rcases h4 with ⟨E, rfl, rfl, ht⟩ | ⟨rfl, ht⟩
  · exact lc_listen C hs hE hi q1 (he1_L_listen l0 hfl h1 μ z) h2 ht (fun h => absurd h (by decide)) (kk _ _ _ _ _ q2 q3 ⟨_, _, _, _, _, _, _, h3⟩)
  · exact lc_listen C hs hE hi q1 (hx_L_listen l0 hfl h1 μ z) h2 ht (fun _ => kup_eq _ _ _) (kk _ _ _ _ _ q2 q3 ⟨_, _, _, _, _, _, _, h3⟩)
theorem ls_accidents (C : kCx x code "PoetFinesLaw" (some .boolean) kcl yL 7 l0 room_1) (hs : kSc x N xs) (hE : kEx (kSt0 x)) (hfl : l0.stackTraces = false) (hi : i + 6 ≤ N) (hN : N ≤ 3072) (hc : cells ≤ 100 + i) (hsl : slots ≤ 40000 + 4 * i) (hR : RR σ μ) (kk : lK x Q i 2491 (i + 6)) : KW x cells slots Q (kmg σ μ z) 1967 (lL i) [] := by
  have q : (cells + 3 ≤ 601024 ∧ slots + 18 ≤ 7293034) ∧ cells + 3 ≤ 100 + (i + 6) ∧ slots + 18 ≤ 40000 + 4 * (i + 6) := ⟨⟨by omega, by omega⟩, by omega, by omega⟩
  obtain ⟨q1, q2, q3⟩ := q
  obtain ⟨N0, M, tp, L, PH, PF, PB, h⟩ := hR
  obtain ⟨oc, σ', b, μ', h1, h2, h3, h4⟩ := op_accidents h ((xs (i + 1)).toInt) ((xs (i + 2)).toInt) ((xs (i + 3)).toInt)
  rcases h4 with ⟨E, rfl, ⟨rfl, ht⟩ | ⟨rfl, ht⟩⟩ | ⟨rfl, ht⟩
  · exact lc_accidents C hs hE hi q1 (he1_L_accidents l0 hfl h1 μ z) h2 ht (fun h => absurd h (by decide)) (kk _ _ _ _ _ q2 q3 ⟨_, _, _, _, _, _, _, h3⟩)
  · exact lc_accidents C hs hE hi q1 (he2_L_accidents l0 hfl h1 μ z) h2 ht (fun h => absurd h (by decide)) (kk _ _ _ _ _ q2 q3 ⟨_, _, _, _, _, _, _, h3⟩)
  · exact lc_accidents C hs hE hi q1 (hx_L_accidents l0 hfl h1 μ z) h2 ht (fun _ => kup_eq _ _ _) (kk _ _ _ _ _ q2 q3 ⟨_, _, _, _, _, _, _, h3⟩)
theorem ls_game (C : kCx x code "PoetFinesLaw" (some .boolean) kcl yL 7 l0 room_1) (hs : kSc x N xs) (hE : kEx (kSt0 x)) (hfl : l0.stackTraces = false) (hi : i + 6 ≤ N) (hN : N ≤ 3072) (hc : cells ≤ 100 + i) (hsl : slots ≤ 40000 + 4 * i) (hR : RR σ μ) (kk : lK x Q i 2491 (i + 6)) : KW x cells slots Q (kmg σ μ z) 2047 (lL i) [] := by
  have q : (cells + 4 ≤ 601024 ∧ slots + 24 ≤ 7293034) ∧ cells + 4 ≤ 100 + (i + 6) ∧ slots + 24 ≤ 40000 + 4 * (i + 6) := ⟨⟨by omega, by omega⟩, by omega, by omega⟩
  obtain ⟨q1, q2, q3⟩ := q
  obtain ⟨N0, M, tp, L, PH, PF, PB, h⟩ := hR
  obtain ⟨oc, σ', b, μ', h1, h2, h3, h4⟩ := op_game h ((xs (i + 1)).toInt) ((xs (i + 2)).toInt) ((xs (i + 3)).toInt)
  rcases h4 with ⟨E, rfl, ⟨rfl, ht⟩ | ⟨rfl, ht⟩⟩ | ⟨rfl, ht⟩
  · exact lc_game C hs hE hi q1 (he1_L_game l0 hfl h1 μ z) h2 ht (fun h => absurd h (by decide)) (kk _ _ _ _ _ q2 q3 ⟨_, _, _, _, _, _, _, h3⟩)
  · exact lc_game C hs hE hi q1 (he2_L_game l0 hfl h1 μ z) h2 ht (fun h => absurd h (by decide)) (kk _ _ _ _ _ q2 q3 ⟨_, _, _, _, _, _, _, h3⟩)
  · exact lc_game C hs hE hi q1 (hx_L_game l0 hfl h1 μ z) h2 ht (fun _ => kup_eq _ _ _) (kk _ _ _ _ _ q2 q3 ⟨_, _, _, _, _, _, _, h3⟩)
theorem ls_decades (C : kCx x code "PoetFinesLaw" (some .boolean) kcl yL 7 l0 room_1) (hs : kSc x N xs) (hE : kEx (kSt0 x)) (hfl : l0.stackTraces = false) (hi : i + 6 ≤ N) (hN : N ≤ 3072) (hc : cells ≤ 100 + i) (hsl : slots ≤ 40000 + 4 * i) (hR : RR σ μ) (kk : lK x Q i 2491 (i + 6)) : KW x cells slots Q (kmg σ μ z) 2127 (lL i) [] := by
  have q : (cells + 2 ≤ 601024 ∧ slots + 12 ≤ 7293034) ∧ cells + 2 ≤ 100 + (i + 6) ∧ slots + 12 ≤ 40000 + 4 * (i + 6) := ⟨⟨by omega, by omega⟩, by omega, by omega⟩
  obtain ⟨q1, q2, q3⟩ := q
  obtain ⟨N0, M, tp, L, PH, PF, PB, h⟩ := hR
  obtain ⟨oc, σ', b, μ', h1, h2, h3, h4⟩ := op_decades h ((xs (i + 1)).toInt) ((xs (i + 2)).toInt) ((xs (i + 3)).toInt)
  rcases h4 with ⟨E, rfl, ⟨rfl, ht⟩ | ⟨rfl, ht⟩⟩ | ⟨rfl, ht⟩
  · exact lc_decades C hs hE hi q1 (he1_L_decades l0 hfl h1 μ z) h2 ht (fun h => absurd h (by decide)) (kk _ _ _ _ _ q2 q3 ⟨_, _, _, _, _, _, _, h3⟩)
  · exact lc_decades C hs hE hi q1 (he2_L_decades l0 hfl h1 μ z) h2 ht (fun h => absurd h (by decide)) (kk _ _ _ _ _ q2 q3 ⟨_, _, _, _, _, _, _, h3⟩)
  · exact lc_decades C hs hE hi q1 (hx_L_decades l0 hfl h1 μ z) h2 ht (fun _ => kup_eq _ _ _) (kk _ _ _ _ _ q2 q3 ⟨_, _, _, _, _, _, _, h3⟩)
theorem ls_jailed (C : kCx x code "PoetFinesLaw" (some .boolean) kcl yL 7 l0 room_1) (hs : kSc x N xs) (hE : kEx (kSt0 x)) (hfl : l0.stackTraces = false) (hi : i + 6 ≤ N) (hN : N ≤ 3072) (hc : cells ≤ 100 + i) (hsl : slots ≤ 40000 + 4 * i) (hR : RR σ μ) (kk : lK x Q i 2491 (i + 6)) : KW x cells slots Q (kmg σ μ z) 2207 (lL i) [] := by
  have q : (cells + 2 ≤ 601024 ∧ slots + 12 ≤ 7293034) ∧ cells + 2 ≤ 100 + (i + 6) ∧ slots + 12 ≤ 40000 + 4 * (i + 6) := ⟨⟨by omega, by omega⟩, by omega, by omega⟩
  obtain ⟨q1, q2, q3⟩ := q
  obtain ⟨N0, M, tp, L, PH, PF, PB, h⟩ := hR
  obtain ⟨oc, σ', b, μ', h1, h2, h3, h4⟩ := op_jailed h ((xs (i + 1)).toInt) ((xs (i + 2)).toInt)
  rcases h4 with ⟨E, rfl, ⟨rfl, ht⟩ | ⟨rfl, ht⟩⟩ | ⟨rfl, ht⟩
  · exact lc_jailed C hs hE hi q1 (he1_L_jailed l0 hfl h1 μ z) h2 ht (fun h => absurd h (by decide)) (kk _ _ _ _ _ q2 q3 ⟨_, _, _, _, _, _, _, h3⟩)
  · exact lc_jailed C hs hE hi q1 (he2_L_jailed l0 hfl h1 μ z) h2 ht (fun h => absurd h (by decide)) (kk _ _ _ _ _ q2 q3 ⟨_, _, _, _, _, _, _, h3⟩)
  · exact lc_jailed C hs hE hi q1 (hx_L_jailed l0 hfl h1 μ z) h2 ht (fun _ => kup_eq _ _ _) (kk _ _ _ _ _ q2 q3 ⟨_, _, _, _, _, _, _, h3⟩)
theorem ls_into (C : kCx x code "PoetFinesLaw" (some .boolean) kcl yL 7 l0 room_1) (hs : kSc x N xs) (hE : kEx (kSt0 x)) (hfl : l0.stackTraces = false) (hi : i + 6 ≤ N) (hN : N ≤ 3072) (hc : cells ≤ 100 + i) (hsl : slots ≤ 40000 + 4 * i) (hR : RR σ μ) (kk : lK x Q i 2491 (i + 6)) : KW x cells slots Q (kmg σ μ z) 2275 (lL i) [] := by
  have q : (cells + 3 ≤ 601024 ∧ slots + 18 ≤ 7293034) ∧ cells + 3 ≤ 100 + (i + 6) ∧ slots + 18 ≤ 40000 + 4 * (i + 6) := ⟨⟨by omega, by omega⟩, by omega, by omega⟩
  obtain ⟨q1, q2, q3⟩ := q
  obtain ⟨N0, M, tp, L, PH, PF, PB, h⟩ := hR
  obtain ⟨oc, σ', b, μ', h1, h2, h3, h4⟩ := op_into h ((xs (i + 1)).toInt) ((xs (i + 2)).toInt) ((xs (i + 3)).toInt)
  rcases h4 with ⟨E, rfl, ⟨rfl, ht⟩ | ⟨rfl, ht⟩⟩ | ⟨rfl, ht⟩
  · exact lc_into C hs hE hi q1 (he1_L_into l0 hfl h1 μ z) h2 ht (fun h => absurd h (by decide)) (kk _ _ _ _ _ q2 q3 ⟨_, _, _, _, _, _, _, h3⟩)
  · exact lc_into C hs hE hi q1 (he2_L_into l0 hfl h1 μ z) h2 ht (fun h => absurd h (by decide)) (kk _ _ _ _ _ q2 q3 ⟨_, _, _, _, _, _, _, h3⟩)
  · exact lc_into C hs hE hi q1 (hx_L_into l0 hfl h1 μ z) h2 ht (fun _ => kup_eq _ _ _) (kk _ _ _ _ _ q2 q3 ⟨_, _, _, _, _, _, _, h3⟩)
theorem ls_laureate (C : kCx x code "PoetFinesLaw" (some .boolean) kcl yL 7 l0 room_1) (hs : kSc x N xs) (hE : kEx (kSt0 x)) (hfl : l0.stackTraces = false) (hi : i + 6 ≤ N) (hN : N ≤ 3072) (hc : cells ≤ 100 + i) (hsl : slots ≤ 40000 + 4 * i) (hR : RR σ μ) (kk : lK x Q i 2491 (i + 6)) : KW x cells slots Q (kmg σ μ z) 2355 (lL i) [] := by
  have q : (cells + 1 ≤ 601024 ∧ slots + 6 ≤ 7293034) ∧ cells + 1 ≤ 100 + (i + 6) ∧ slots + 6 ≤ 40000 + 4 * (i + 6) := ⟨⟨by omega, by omega⟩, by omega, by omega⟩
  obtain ⟨q1, q2, q3⟩ := q
  obtain ⟨N0, M, tp, L, PH, PF, PB, h⟩ := hR
  obtain ⟨oc, σ', b, μ', h1, h2, h3, h4⟩ := op_laureate h ((xs (i + 1)).toInt)
  rcases h4 with ⟨E, rfl, rfl, ht⟩ | ⟨rfl, ht⟩
  · exact lc_laureate C hs hE hi q1 (he1_L_laureate l0 hfl h1 μ z) h2 ht (fun h => absurd h (by decide)) (kk _ _ _ _ _ q2 q3 ⟨_, _, _, _, _, _, _, h3⟩)
  · exact lc_laureate C hs hE hi q1 (hx_L_laureate l0 hfl h1 μ z) h2 ht (fun _ => kup_eq _ _ _) (kk _ _ _ _ _ q2 q3 ⟨_, _, _, _, _, _, _, h3⟩)
theorem ls_plaintiff (C : kCx x code "PoetFinesLaw" (some .boolean) kcl yL 7 l0 room_1) (hs : kSc x N xs) (hE : kEx (kSt0 x)) (hfl : l0.stackTraces = false) (hi : i + 6 ≤ N) (hN : N ≤ 3072) (hc : cells ≤ 100 + i) (hsl : slots ≤ 40000 + 4 * i) (hR : RR σ μ) (kk : lK x Q i 2491 (i + 6)) : KW x cells slots Q (kmg σ μ z) 2411 (lL i) [] := by
  have q : (cells + 1 ≤ 601024 ∧ slots + 6 ≤ 7293034) ∧ cells + 1 ≤ 100 + (i + 6) ∧ slots + 6 ≤ 40000 + 4 * (i + 6) := ⟨⟨by omega, by omega⟩, by omega, by omega⟩
  obtain ⟨q1, q2, q3⟩ := q
  obtain ⟨N0, M, tp, L, PH, PF, PB, h⟩ := hR
  obtain ⟨oc, σ', b, μ', h1, h2, h3, h4⟩ := op_plaintiff h ((xs (i + 1)).toInt)
  rcases h4 with ⟨E, rfl, rfl, ht⟩ | ⟨rfl, ht⟩
  · exact lc_plaintiff C hs hE hi q1 (he1_L_plaintiff l0 hfl h1 μ z) h2 ht (fun h => absurd h (by decide)) (kk _ _ _ _ _ q2 q3 ⟨_, _, _, _, _, _, _, h3⟩)
  · exact lc_plaintiff C hs hE hi q1 (hx_L_plaintiff l0 hfl h1 μ z) h2 ht (fun _ => kup_eq _ _ _) (kk _ _ _ _ _ q2 q3 ⟨_, _, _, _, _, _, _, h3⟩)
theorem ls_image (C : kCx x code "PoetFinesLaw" (some .boolean) kcl yL 7 l0 room_1) (hs : kSc x N xs) (hE : kEx (kSt0 x)) (hfl : l0.stackTraces = false) (hi : i + 6 ≤ N) (hN : N ≤ 3072) (hc : cells ≤ 100 + i) (hsl : slots ≤ 40000 + 4 * i) (hR : RR σ μ) (kk : lK x Q i 2491 (i + 6)) : KW x cells slots Q (kmg σ μ z) 2467 (lL i) [] := by
  have q : (cells ≤ 601024 ∧ slots ≤ 7293034) ∧ cells ≤ 100 + (i + 6) ∧ slots ≤ 40000 + 4 * (i + 6) := ⟨⟨by omega, by omega⟩, by omega, by omega⟩
  obtain ⟨q1, q2, q3⟩ := q
  obtain ⟨N0, M, tp, L, PH, PF, PB, h⟩ := hR
  obtain ⟨σ', μ', h1, h2, h3⟩ := op_image h
  exact lc_image C hs hE hi q1 h1 h2 (kk _ _ _ _ _ q2 q3 ⟨_, _, _, _, _, _, _, h3⟩)
theorem ls_restore (C : kCx x code "PoetFinesLaw" (some .boolean) kcl yL 7 l0 room_1) (hs : kSc x N xs) (hE : kEx (kSt0 x)) (hfl : l0.stackTraces = false) (hi : i + 6 ≤ N) (hN : N ≤ 3072) (hc : cells ≤ 100 + i) (hsl : slots ≤ 40000 + 4 * i) (hR : RR σ μ) (kk : lK x Q i 2491 (i + 6)) : KW x cells slots Q (kmg σ μ z) 2478 (lL i) [] := by
  have q : (cells ≤ 601024 ∧ slots ≤ 7293034) ∧ cells ≤ 100 + (i + 6) ∧ slots ≤ 40000 + 4 * (i + 6) := ⟨⟨by omega, by omega⟩, by omega, by omega⟩
  obtain ⟨q1, q2, q3⟩ := q
  obtain ⟨N0, M, tp, L, PH, PF, PB, h⟩ := hR
  obtain ⟨b, σ', μ', h1, h2, h3⟩ := op_restore h 
  exact lc_restore C hs hE hi q1 h1 h2 (kk _ _ _ _ _ q2 q3 ⟨_, _, _, _, _, _, _, h3⟩)
end LLS
