/-! CALLS: readings. The reference's table, people -/
theorem rb01 {h : Int} {p : Nat} (h0 : 0 ≤ h ∧ h < 256) (hp : p < 8) : kand (kshr h (p : Int)) 1 = 0 ∨ kand (kshr h (p : Int)) 1 = 1 := kbt01 h0.1 h0.2 (by omega) (by omega)
section RTD
variable {N M tp : Int} {L : Nat → Int} {PH PF PB : List Int} {σ σ' μ μ' : kM} {q : Nat → Int}
/-- the loop over people, in the table -/
theorem m_rx (h : MN N M tp L PH PF PB μ q) {w : Nat} {hd v : Int} (hw : w < M.toNat) (h0 : 0 ≤ hd ∧ hd < 256) (hS : qS q w = false) {f : Nat → Int} (hf : ∀ p : Nat, p < N.toNat → frb hd p → w32 (qr PH q w p + μ 18 (256 * (w + 1) + (orb hd p).toNat)) = f p) : ∃ μ', kloop (fun st => mm_laysReadings_l64 st.1 (w : Int) hd st.2.1 st.2.2) kFuel (μ, v, 0) = some (μ', rX f hd v N.toNat) ∧ scrM μ μ' := by
  have hn1 := h.1.1
  have hn2 := h.1.2.1
  have n9 : N.toNat < 100000000 := by omega
  have nN : N ≤ ((N.toNat : Nat) : Int) := by omega
  have n8 : N.toNat ≤ 8 := by omega
  obtain ⟨e25, c25, -⟩ := rt_s hn2 hw
  exact kl_S (body := fun st => mm_laysReadings_l64 st.1 (w : Int) hd st.2.1 st.2.2) (fun μ1 => scrM μ μ1) (fun p => (rX f hd v p, (p : Int))) N.toNat (rX f hd v N.toNat) n9 (fun p μ1 hp hs => by
    have hs : scrM μ μ1 := hs
    have h1 := h.scr hs
    obtain ⟨g1, g2, g3⟩ := m_sits h1 hw
    obtain ⟨ewp, cn, -⟩ := rq_n hn1 hn2 hw hp
    obtain ⟨μ2, t1, t2⟩ := m_readsTo h1 hw hp h0
    obtain ⟨μ3, u1, u2⟩ := m_readsTo (h1.scr t2) hw hp h0
    rw [t2 18 (by decide) (by decide)] at u1
    rw [hs 18 (by decide) (by decide)] at t1 u1
    have b01 := rb01 h0 (Nat.lt_of_lt_of_le hp n8)
    have e : rX f hd v (p + 1) = if kand (kshr hd (p : Int)) 1 = 0 then (if f p ≤ rX f hd v p then rX f hd v p else f p) else rX f hd v p := rfl
    show ∃ μ2, mm_laysReadings_l64 μ1 (w : Int) hd (rX f hd v p) (p : Int) = some (Sum.inl (μ2, rX f hd v (p + 1), ((p + 1 : Nat) : Int))) ∧ scrM μ μ2
    unfold mm_laysReadings_l64 mm_laysReadings_l64_j122 mm_laysReadings_l64_j123
    rw [h1.2.1.2.1, if_neg cn, e25, kchk_t c25, Int.toNat_natCast, g1, if_pos (g3 hS).1, klet_eq, ewp, e]
    by_cases c : kand (kshr hd (p : Int)) 1 = 0
    · rw [hf p hp c] at t1 u1
      rw [if_neg (by rw [c]; decide), if_pos c, kbind_eq t1]
      dsimp only
      by_cases d : f p ≤ rX f hd v p
      · rw [if_pos d, if_pos d, klet_eq]
        exact ⟨μ2, rfl, hs.trans t2⟩
      · rw [if_neg d, if_neg d, kbind_eq u1]
        dsimp only
        rw [klet_eq]
        exact ⟨μ3, rfl, hs.trans (t2.trans u2)⟩
    · rw [if_pos (b01.resolve_left c), if_neg c]
      exact ⟨μ1, rfl, hs⟩) (fun μ1 hs => by
    refine ⟨μ1, ?_, hs⟩
    show mm_laysReadings_l64 μ1 (w : Int) hd (rX f hd v N.toNat) ((N.toNat : Nat) : Int) = _
    unfold mm_laysReadings_l64
    rw [(h.scr hs).2.1.2.1, if_pos nN]) (σ := μ) scrM.rfl (b0 := (v, 0)) rfl
end RTD
