/-! THE LAW: its loop (program wip/whole/gen/laws.py) -/
def dl_K_h : List (Nat × Instr × Nat) := [(23, .iload 4, 2), (25, .aload_n 0, 1), (26, .arraylength, 1), (27, .bipush 6, 2), (29, .isub, 1), (30, .if_icmp .gt 2467, 3), (33, .aload_n 0, 1), (34, .iload 4, 2), (36, .iaload, 1), (37, .bipush 63, 2), (39, .iand, 1), (40, .tableswitch 2451 0 37 #[168, 241, 297, 310, 366, 434, 502, 582, 607, 663, 743, 799, 867, 923, 936, 1016, 1096, 1164, 1232, 1300, 1392, 1460, 1528, 1584, 1640, 1708, 1804, 1815, 1871, 1927, 2007, 2087, 2167, 2235, 2315, 2371, 2427, 2438], 168), (2491, .iinc 4 6, 3), (2494, .goto (-2471), 3), (2497, .iconst 1, 1), (2498, .ireturn, 1)]
theorem dc_K_h : kdecs code dl_K_h = true := by decide +kernel
section LLL
variable {x : kX} {l0 : Launch} {N : Nat} {xs : Nat → Int32}
theorem ls_case {cells slots : Nat} {Q : State → Prop} {i : Nat} {σ μ : kM} {z : Nat → Int} {a : Int} (C : kCx x code "PoetFinesLaw" (some .boolean) kcl yL 7 l0 room_1) (hs : kSc x N xs) (hE : kEx (kSt0 x)) (hfl : l0.stackTraces = false) (hi : i + 6 ≤ N) (hN : N ≤ 3072) (hc : cells ≤ 100 + i) (hsl : slots ≤ 40000 + 4 * i) (hR : RR σ μ) (kk : lK x Q i 2491 (i + 6)) : KW x cells slots Q (kmg σ μ z) 40 (lL i) [ki a] := by
  have hd := (kdec dc_K_h 11 rfl)
  by_cases h : a < 0 ∨ 37 < a
  · exact kw_table C hd 2491 (Or.inl ⟨h, by decide⟩) (kk _ _ _ _ _ (by omega) (by omega) hR)
  · have h2 : a = 0 ∨ a = 1 ∨ a = 2 ∨ a = 3 ∨ a = 4 ∨ a = 5 ∨ a = 6 ∨ a = 7 ∨ a = 8 ∨ a = 9 ∨ a = 10 ∨ a = 11 ∨ a = 12 ∨ a = 13 ∨ a = 14 ∨ a = 15 ∨ a = 16 ∨ a = 17 ∨ a = 18 ∨ a = 19 ∨ a = 20 ∨ a = 21 ∨ a = 22 ∨ a = 23 ∨ a = 24 ∨ a = 25 ∨ a = 26 ∨ a = 27 ∨ a = 28 ∨ a = 29 ∨ a = 30 ∨ a = 31 ∨ a = 32 ∨ a = 33 ∨ a = 34 ∨ a = 35 ∨ a = 36 ∨ a = 37 := by omega
    clear h
    rcases h2 with rfl | rfl | rfl | rfl | rfl | rfl | rfl | rfl | rfl | rfl | rfl | rfl | rfl | rfl | rfl | rfl | rfl | rfl | rfl | rfl | rfl | rfl | rfl | rfl | rfl | rfl | rfl | rfl | rfl | rfl | rfl | rfl | rfl | rfl | rfl | rfl | rfl | rfl
    · exact kw_table C hd 208 (Or.inr ⟨by decide, by decide, 168, rfl, by decide⟩) (ls_feed C hs hE hfl hi hN hc hsl hR kk)
    · exact kw_table C hd 281 (Or.inr ⟨by decide, by decide, 241, rfl, by decide⟩) (ls_state C hs hE hfl hi hN hc hsl hR kk)
    · exact kw_table C hd 337 (Or.inr ⟨by decide, by decide, 297, rfl, by decide⟩) (ls_fault C hs hE hfl hi hN hc hsl hR kk)
    · exact kw_table C hd 350 (Or.inr ⟨by decide, by decide, 310, rfl, by decide⟩) (ls_count C hs hE hfl hi hN hc hsl hR kk)
    · exact kw_table C hd 406 (Or.inr ⟨by decide, by decide, 366, rfl, by decide⟩) (ls_person C hs hE hfl hi hN hc hsl hR kk)
    · exact kw_table C hd 474 (Or.inr ⟨by decide, by decide, 434, rfl, by decide⟩) (ls_poet C hs hE hfl hi hN hc hsl hR kk)
    · exact kw_table C hd 542 (Or.inr ⟨by decide, by decide, 502, rfl, by decide⟩) (ls_line C hs hE hfl hi hN hc hsl hR kk)
    · exact kw_table C hd 622 (Or.inr ⟨by decide, by decide, 582, rfl, by decide⟩) (ls_years C hs hE hfl hi hN hc hsl hR kk)
    · exact kw_table C hd 647 (Or.inr ⟨by decide, by decide, 607, rfl, by decide⟩) (ls_burn C hs hE hfl hi hN hc hsl hR kk)
    · exact kw_table C hd 703 (Or.inr ⟨by decide, by decide, 663, rfl, by decide⟩) (ls_rewrite C hs hE hfl hi hN hc hsl hR kk)
    · exact kw_table C hd 783 (Or.inr ⟨by decide, by decide, 743, rfl, by decide⟩) (ls_pardon C hs hE hfl hi hN hc hsl hR kk)
    · exact kw_table C hd 839 (Or.inr ⟨by decide, by decide, 799, rfl, by decide⟩) (ls_fill C hs hE hfl hi hN hc hsl hR kk)
    · exact kw_table C hd 907 (Or.inr ⟨by decide, by decide, 867, rfl, by decide⟩) (ls_heal C hs hE hfl hi hN hc hsl hR kk)
    · exact kw_table C hd 963 (Or.inr ⟨by decide, by decide, 923, rfl, by decide⟩) (ls_undo C hs hE hfl hi hN hc hsl hR kk)
    · exact kw_table C hd 976 (Or.inr ⟨by decide, by decide, 936, rfl, by decide⟩) (ls_then C hs hE hfl hi hN hc hsl hR kk)
    · exact kw_table C hd 1056 (Or.inr ⟨by decide, by decide, 1016, rfl, by decide⟩) (ls_poetThen C hs hE hfl hi hN hc hsl hR kk)
    · exact kw_table C hd 1136 (Or.inr ⟨by decide, by decide, 1096, rfl, by decide⟩) (ls_hurt C hs hE hfl hi hN hc hsl hR kk)
    · exact kw_table C hd 1204 (Or.inr ⟨by decide, by decide, 1164, rfl, by decide⟩) (ls_later C hs hE hfl hi hN hc hsl hR kk)
    · exact kw_table C hd 1272 (Or.inr ⟨by decide, by decide, 1232, rfl, by decide⟩) (ls_worst C hs hE hfl hi hN hc hsl hR kk)
    · exact kw_table C hd 1340 (Or.inr ⟨by decide, by decide, 1300, rfl, by decide⟩) (ls_probe C hs hE hfl hi hN hc hsl hR kk)
    · exact kw_table C hd 1432 (Or.inr ⟨by decide, by decide, 1392, rfl, by decide⟩) (ls_safe C hs hE hfl hi hN hc hsl hR kk)
    · exact kw_table C hd 1500 (Or.inr ⟨by decide, by decide, 1460, rfl, by decide⟩) (ls_sonnet C hs hE hfl hi hN hc hsl hR kk)
    · exact kw_table C hd 1568 (Or.inr ⟨by decide, by decide, 1528, rfl, by decide⟩) (ls_action C hs hE hfl hi hN hc hsl hR kk)
    · exact kw_table C hd 1624 (Or.inr ⟨by decide, by decide, 1584, rfl, by decide⟩) (ls_readings C hs hE hfl hi hN hc hsl hR kk)
    · exact kw_table C hd 1680 (Or.inr ⟨by decide, by decide, 1640, rfl, by decide⟩) (ls_best C hs hE hfl hi hN hc hsl hR kk)
    · exact kw_table C hd 1748 (Or.inr ⟨by decide, by decide, 1708, rfl, by decide⟩) (ls_feel C hs hE hfl hi hN hc hsl hR kk)
    · exact kw_table C hd 1844 (Or.inr ⟨by decide, by decide, 1804, rfl, by decide⟩) (ls_forget C hs hE hfl hi hN hc hsl hR kk)
    · exact kw_table C hd 1855 (Or.inr ⟨by decide, by decide, 1815, rfl, by decide⟩) (ls_truths C hs hE hfl hi hN hc hsl hR kk)
    · exact kw_table C hd 1911 (Or.inr ⟨by decide, by decide, 1871, rfl, by decide⟩) (ls_listen C hs hE hfl hi hN hc hsl hR kk)
    · exact kw_table C hd 1967 (Or.inr ⟨by decide, by decide, 1927, rfl, by decide⟩) (ls_accidents C hs hE hfl hi hN hc hsl hR kk)
    · exact kw_table C hd 2047 (Or.inr ⟨by decide, by decide, 2007, rfl, by decide⟩) (ls_game C hs hE hfl hi hN hc hsl hR kk)
    · exact kw_table C hd 2127 (Or.inr ⟨by decide, by decide, 2087, rfl, by decide⟩) (ls_decades C hs hE hfl hi hN hc hsl hR kk)
    · exact kw_table C hd 2207 (Or.inr ⟨by decide, by decide, 2167, rfl, by decide⟩) (ls_jailed C hs hE hfl hi hN hc hsl hR kk)
    · exact kw_table C hd 2275 (Or.inr ⟨by decide, by decide, 2235, rfl, by decide⟩) (ls_into C hs hE hfl hi hN hc hsl hR kk)
    · exact kw_table C hd 2355 (Or.inr ⟨by decide, by decide, 2315, rfl, by decide⟩) (ls_laureate C hs hE hfl hi hN hc hsl hR kk)
    · exact kw_table C hd 2411 (Or.inr ⟨by decide, by decide, 2371, rfl, by decide⟩) (ls_plaintiff C hs hE hfl hi hN hc hsl hR kk)
    · exact kw_table C hd 2467 (Or.inr ⟨by decide, by decide, 2427, rfl, by decide⟩) (ls_image C hs hE hfl hi hN hc hsl hR kk)
    · exact kw_table C hd 2478 (Or.inr ⟨by decide, by decide, 2438, rfl, by decide⟩) (ls_restore C hs hE hfl hi hN hc hsl hR kk)
theorem ls_loop (C : kCx x code "PoetFinesLaw" (some .boolean) kcl yL 7 l0 room_1) (hs : kSc x N xs) (hE : kEx (kSt0 x)) (hl : kLw x) (hfl : l0.stackTraces = false) (hN : N ≤ 3072) : ∀ (n i : Nat), N < i + n → i ≤ 3078 → lK x (lZ x) i 23 i := by
  intro n
  induction n with
  | zero =>
    intro i h1 h2 cells slots σ μ z hc hsl hR
    have q1 : cells ≤ 601024 := by omega
    have q2 : slots ≤ 7293034 := by omega
    refine kw_iload C (kdec dc_K_h 0 rfl) 25 rfl rfl ?_
    refine kw_aload_n C (kdec dc_K_h 1 rfl) rfl 26 rfl rfl ?_
    refine kw_slen C hs (kdec dc_K_h 2 rfl) 27 rfl ?_
    refine kw_bipush (v := 6) C (kdec dc_K_h 3 rfl) 29 rfl rfl ⟨by decide, by decide⟩ ?_
    refine kw_isub C (kdec dc_K_h 4 rfl) 30 rfl ?_
    have e : w32 ((N : Int) - 6) = (N : Int) - 6 := w32_s (by omega) (by omega)
    refine kw_icmp_gt C (kdec dc_K_h 5 rfl) 2497 33 (by decide) rfl (fun _ => ?_) (fun h => ?_)
    · refine kw_iconst (v := 1) C (kdec dc_K_h 14 rfl) 2498 rfl rfl ⟨by decide, by decide⟩ ?_
      exact kw_lret C hl q1 q2 (kdec dc_K_h 15 rfl)
    · rw [e] at h
      clear e
      omega
  | succ n ih =>
    intro i h1 h2 cells slots σ μ z hc hsl hR
    have q1 : cells ≤ 601024 := by omega
    have q2 : slots ≤ 7293034 := by omega
    refine kw_iload C (kdec dc_K_h 0 rfl) 25 rfl rfl ?_
    refine kw_aload_n C (kdec dc_K_h 1 rfl) rfl 26 rfl rfl ?_
    refine kw_slen C hs (kdec dc_K_h 2 rfl) 27 rfl ?_
    refine kw_bipush (v := 6) C (kdec dc_K_h 3 rfl) 29 rfl rfl ⟨by decide, by decide⟩ ?_
    refine kw_isub C (kdec dc_K_h 4 rfl) 30 rfl ?_
    have e : w32 ((N : Int) - 6) = (N : Int) - 6 := w32_s (by omega) (by omega)
    refine kw_icmp_gt C (kdec dc_K_h 5 rfl) 2497 33 (by decide) rfl (fun _ => ?_) (fun h => ?_)
    · refine kw_iconst (v := 1) C (kdec dc_K_h 14 rfl) 2498 rfl rfl ⟨by decide, by decide⟩ ?_
      exact kw_lret C hl q1 q2 (kdec dc_K_h 15 rfl)
    · rw [e] at h
      clear e
      have hi : i + 6 ≤ N := by omega
      have hlt : (i : Int) < (N : Int) := by omega
      have h3 : i + 6 ≤ 3078 := by omega
      have h4 : N < i + 6 + n := by omega
      clear h
      have e6 : w32 ((i : Int) + 6) = ((i + 6 : Nat) : Int) := by
        rw [w32_s (by omega) (by omega)]
        omega
      refine kw_aload_n C (kdec dc_K_h 6 rfl) rfl 34 rfl rfl ?_
      refine kw_iload C (kdec dc_K_h 7 rfl) 36 rfl rfl ?_
      refine kw_sld C hs (kdec dc_K_h 8 rfl) 37 rfl (Int.natCast_nonneg i) hlt ?_
      refine kw_bipush (v := 63) C (kdec dc_K_h 9 rfl) 39 rfl rfl ⟨by decide, by decide⟩ ?_
      refine kw_iand C (kdec dc_K_h 10 rfl) 40 rfl ?_
      refine ls_case C hs hE hfl hi hN hc hsl hR ?_
      intro cells1 slots1 σ1 μ1 z1 hc1 hsl1 hR1
      refine kw_iinc (L' := lL (i + 6)) C (kdec dc_K_h 12 rfl) 2494 rfl rfl (by decide) rfl ?_ ?_
      · show (lL i).set 4 (some (ki (w32 ((i : Int) + 6)))) = lL (i + 6)
        rw [e6]
        rfl
      · refine kw_goto C (kdec dc_K_h 13 rfl) 23 (by decide) ?_
        exact ih (i + 6) h4 h3 cells1 slots1 σ1 μ1 z1 hc1 hsl1 hR1
end LLL
