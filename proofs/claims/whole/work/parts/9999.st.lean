/-! THE START: the law makes its objects; then its loop -/
def kbF (n : Nat) : kF → Bool
  | .inl _ => true
  | .inr k => decide (k < n)
def kbD (n : Nat) : kD → Bool
  | .inl _ => true
  | .inr (_, fs) => fs.all (kbF n)
theorem kfv_cong {n : Nat} {ad ad' : Nat → Nat} (h : ∀ k : Nat, k < n → ad k = ad' k) {f : Nat → Int} {j : Nat} : ∀ {d : kF}, kbF n d = true → kfv ad f j d = kfv ad' f j d
  | .inl false, _ => rfl
  | .inl true, _ => rfl
  | .inr k, hd => by
    have hk : k < n := of_decide_eq_true hd
    show Value.ref (ad k) = Value.ref (ad' k)
    rw [h k hk]
theorem kE_cong {n : Nat} {ad ad' : Nat → Nat} (h : ∀ k : Nat, k < n → ad k = ad' k) {cA : Nat → ClassId} {f : Nat → Int} : ∀ {d : kD}, kbD n d = true → kE ad cA f d = kE ad' cA f d
  | .inl (t, m), _ => by rcases t with _ | _ | _ | _ | t <;> rfl
  | .inr (ci, fs), hd => by
    have hd : fs.all (kbF n) = true := hd
    show Sum.inr (ci, fs.mapIdx (fun j d => kfv ad f j d)) = Sum.inr (ci, fs.mapIdx (fun j d => kfv ad' f j d))
    congr 2
    apply List.ext_getElem?
    intro i
    rw [List.getElem?_mapIdx, List.getElem?_mapIdx]
    cases hi : fs[i]? with
    | none => rfl
    | some d =>
      show some (kfv ad f i d) = some (kfv ad' f i d)
      rw [kfv_cong h (List.all_eq_true.mp hd d (List.mem_of_getElem? hi))]
theorem yC_b : yC.all (kbD 71) = true := by decide +kernel
theorem yM_b : yM.all (kbD 25) = true := by decide +kernel
theorem kws_L {cA : Nat → ClassId} {ad : Nat → Nat} {a a' : Nat} {b b' : Nat → Nat} (h1 : ∀ k : Nat, k < 71 → ad k = kaC a b k) (h2 : ∀ k : Nat, k < 25 → ad (71 + k) = kaC a' b' k) : kws ad cA yL (kmg k0C k0M (fun _ => 0)) = no_P cA a b ++ (no_M cA a' b' ++ [(ad 96, .inl (cA 3, (1, .inr (.inl (fun _ => Int64.ofInt 0)))))]) := by
  rw [← kws_C, ← kws_M]
  have e0 : kws ad cA yL (kmg k0C k0M (fun _ => 0)) = yC.mapIdx (fun k d => (ad k, kE ad cA (kmg k0C k0M (fun _ => 0) k) d)) ++ ((yM.map (kshD gM)).mapIdx (fun k d => (ad (k + yC.length), kE ad cA (kmg k0C k0M (fun _ => 0) (k + yC.length)) d)) ++ [(Sum.inl (3, 1) : kD)].mapIdx (fun k d => (ad (k + (yM.map (kshD gM)).length + yC.length), kE ad cA (kmg k0C k0M (fun _ => 0) (k + (yM.map (kshD gM)).length + yC.length)) d))) := by
    unfold kws yL
    rw [List.mapIdx_append, List.mapIdx_append]
  rw [e0, List.length_map, yC_len, yM_len]
  have e1 : yC.mapIdx (fun k d => (ad k, kE ad cA (kmg k0C k0M (fun _ => 0) k) d)) = kws (kaC a b) cA yC k0C := by
    unfold kws
    apply List.ext_getElem?
    intro i
    rw [List.getElem?_mapIdx, List.getElem?_mapIdx]
    cases hi : yC[i]? with
    | none => rfl
    | some d =>
      have hl : i < 71 := by
        have := (List.getElem?_eq_some_iff.mp hi).1
        rw [yC_len] at this
        exact this
      have hk : kmg k0C k0M (fun _ => 0) i = k0C i := by
        unfold kmg
        rw [if_pos hl]
      show some (ad i, kE ad cA (kmg k0C k0M (fun _ => 0) i) d) = some (kaC a b i, kE (kaC a b) cA (k0C i) d)
      rw [hk, h1 i hl, kE_cong h1 (List.all_eq_true.mp yC_b d (List.mem_of_getElem? hi))]
  have e2 : (yM.map (kshD gM)).mapIdx (fun k d => (ad (k + 71), kE ad cA (kmg k0C k0M (fun _ => 0) (k + 71)) d)) = kws (kaC a' b') cA yM k0M := by
    unfold kws
    apply List.ext_getElem?
    intro i
    rw [List.getElem?_mapIdx, List.getElem?_mapIdx, List.getElem?_map]
    cases hi : yM[i]? with
    | none => rfl
    | some d =>
      have hl : i < 25 := by
        have := (List.getElem?_eq_some_iff.mp hi).1
        rw [yM_len] at this
        exact this
      have hk : kmg k0C k0M (fun _ => 0) (71 + i) = k0M i := by
        have := kmg_M k0C k0M (fun _ => 0) i
        unfold gM at this
        rw [if_pos hl] at this
        exact this
      show some (ad (i + 71), kE ad cA (kmg k0C k0M (fun _ => 0) (i + 71)) (kshD gM d)) = some (kaC a' b' i, kE (kaC a' b') cA (k0M i) d)
      have hg : ∀ k : Nat, k < 25 → (fun k => ad (gM k)) k = kaC a' b' k := fun k hk => by
        show ad (gM k) = _
        unfold gM
        rw [if_pos hk, h2 k hk]
      rw [Nat.add_comm i 71, hk, h2 i hl, kE_sh, kE_cong hg (List.all_eq_true.mp yM_b d (List.mem_of_getElem? hi))]
  have e3 : [(Sum.inl (3, 1) : kD)].mapIdx (fun k d => (ad (k + 25 + 71), kE ad cA (kmg k0C k0M (fun _ => 0) (k + 25 + 71)) d)) = [(ad 96, .inl (cA 3, (1, .inr (.inl (fun _ => Int64.ofInt 0)))))] := rfl
  rw [e1, e2, e3]
theorem kmg0_rng (k j : Nat) : -1 ≤ kmg k0C k0M (fun _ => 0) k j ∧ kmg k0C k0M (fun _ => 0) k j ≤ 3 := by
  unfold kmg
  repeat' split
  · exact k0C_rng _ _
  · exact k0M_rng _ _
  · exact ⟨(show (-1 : Int) ≤ 0 by decide), (show (0 : Int) ≤ 3 by decide)⟩
  · exact k0C_rng _ _
  · exact k0M_rng _ _
theorem kNw_on {w : Cond} (h : kNw w = true) : w.onTables = true := by
  cases w <;> first | rfl | cases h
theorem st_arr {ty : FieldType} {args : Array Value} {s : State} (h : (Cond.arrayClass ty).before args s = true) : ∃ cA : ClassId, ArrOfT s cA ty ∧ s.vm.findClass ("[" ++ ty.toString) = some cA := by
  obtain ⟨c, k, comp, h1, h2, h3⟩ := Cond.arrayClass_spec h
  exact ⟨c, fun n z => ⟨fun k h => (by cases h), k, h2, comp, h3⟩, h1⟩
theorem wx_i12 : Cond.instantiable "PoetFines" 12 ∈ kG := kG_of kch1 30 rfl rfl
theorem wx_i64 : Cond.instantiable "PoetFinesModel" 64 ∈ kG := kG_of kch7 4 rfl rfl
theorem wx_c8 : Cond.classLink "PoetFinesLaw" 8 "PoetFines" ∈ kG := kG_of kch1 29 rfl rfl
theorem wx_c112 : Cond.classLink "PoetFinesLaw" 112 "PoetFinesModel" ∈ kG := kG_of kch7 3 rfl rfl
theorem wx_m111 : Cond.methodLink "PoetFinesLaw" 111 ⟨"PoetFines", "<init>", "()V"⟩ ∈ kG := kG_of kch1 31 rfl rfl
theorem wx_m114 : Cond.methodLink "PoetFinesLaw" 114 ⟨"PoetFinesModel", "<init>", "()V"⟩ ∈ kG := kG_of kch7 5 rfl rfl
theorem wx_iP : Cond.instanceMethod ⟨"PoetFines", "<init>", "()V"⟩ ∈ kG := kG_of kch1 32 rfl rfl
theorem wx_iM : Cond.instanceMethod ⟨"PoetFinesModel", "<init>", "()V"⟩ ∈ kG := kG_of kch7 6 rfl rfl
theorem wx_kP : Cond.code ⟨"PoetFines", "<init>", "()V"⟩ prog_1_method_1_code 1 none ∈ kG := kG_of kch1 33 rfl rfl
theorem wx_kM : Cond.code ⟨"PoetFinesModel", "<init>", "()V"⟩ prog_14_method_1_code 1 none ∈ kG := kG_of kch7 7 rfl rfl
theorem st_K {args : Array Value} {s : State} (hts : ∀ w ∈ kG, w.before args s = true) : ∃ (D : va_G) (cA : Nat → ClassId), va_K D kcl (ktys cA) s := by
  have h : ∀ k : Nat, ∃ d : ClassId × (Nat → Nat), ∀ q : vw_C, kcl[k]? = some q → u_Kn s q.1 q.2.1 q.2.2 d.1 d.2 := by
    have one : ∀ {k : Nat} {C : String} {T : u_T} {N n : Nat}, (∀ w ∈ u_ws C T N, w ∈ kG) → Cond.instantiable C n ∈ kG → kcl[k]? = some (C, T, N) → ∃ d : ClassId × (Nat → Nat), ∀ q : vw_C, kcl[k]? = some q → u_Kn s q.1 q.2.1 q.2.2 d.1 d.2 := by
      intro k C T N n h1 h2 h3
      obtain ⟨cC, iS, h4⟩ := u_known hts h1 (hts _ h2)
      refine ⟨(cC, iS), fun q hq => ?_⟩
      rw [h3] at hq
      cases hq
      exact h4
    intro k
    match k with
    | 0 => exact one kin0 wd_294 rfl
    | 1 => exact one kin1 wd_404 rfl
    | 2 => exact one kin2 wd_149 rfl
    | 3 => exact one kin3 wd_440 rfl
    | 4 => exact one kin4 wd_220 rfl
    | 5 => exact one kin5 wd_155 rfl
    | 6 => exact one kin6 wd_331 rfl
    | 7 => exact one kin7 wd_337 rfl
    | 8 => exact one kin8 wd_244 rfl
    | 9 => exact one kin9 wd_228 rfl
    | 10 => exact one kin10 wx_i12 rfl
    | 11 => exact one kin11 wx_i64 rfl
    | k + 12 => exact ⟨(s.vm.classes.size, fun _ => 0), fun q hq => by cases hq⟩
  obtain ⟨d, hd⟩ := Classical.axiomOfChoice h
  obtain ⟨cI, i1, i2⟩ := st_arr (hts _ wd_177)
  obtain ⟨cB, b1, b2⟩ := st_arr (hts _ wd_176)
  obtain ⟨cZ, z1, z2⟩ := st_arr (hts _ wd_1753)
  obtain ⟨cL, l1, l2⟩ := st_arr (hts _ wd_490)
  refine ⟨(fun k => (d k).1, fun k => (d k).2), fun t => if t = 0 then cI else if t = 1 then cB else if t = 2 then cZ else cL, fun c q hq => hd c q hq, fun k q hq => ?_⟩
  match k, hq with
  | 0, hq => cases hq; exact ⟨i1, i2⟩
  | 1, hq => cases hq; exact ⟨b1, b2⟩
  | 2, hq => cases hq; exact ⟨z1, z2⟩
  | 3, hq => cases hq; exact ⟨l1, l2⟩
  | k + 4, hq => cases hq
/-- a constructor, called by the law -/
theorem st_callI {p : Program} {l : Launch} {e : Env} {R : Room} {s : State} {m : MethodId} {args : Array Value} {below : List Frame} {meth : Method} {c : Code} {H : Heap} {locs : List Loc} {cells slots : Nat} {Q : State → Prop} {cc : ByteArray} {nL index pc q c2 mc ms maxL : Nat} {own : String} {fs2 : List Value} {y : MethodName} {bytes : ByteArray} {rm : Room} {out : (Nat → ClassId) → Nat → (Nat → Nat) → va_W} {ws : va_W} {ls : Array Slot} {S : List Value} {D : va_G} {cA : Nat → ClassId} {A : Nat → Prop}
    (hx : p.tables.exec = Jvm.exec) (hb : c.code = cc) (hml : c.maxLocals = nL) (hown : s.vm.findClass own = some m.cls) (hts : ∀ w ∈ kG, w.before args s = true) (hN : ∀ w ∈ kNs, va_Nw w s) (hK : va_K D kcl (ktys cA) s) (hA : ∀ z : Nat, s.heap.size ≤ z → A z) (hd : decode cc pc = .ok (.invokespecial index, 3))
    (hc : kCb own index y bytes maxL none 0) (hn : y.name = "<init>") (hi : Cond.instanceMethod y ∈ kG) (hM : nMet l y bytes maxL rm kcl c2 fs2 [] out mc ms) (hrm : rm.cells = mc ∧ rm.slots = ms) (hR : rm.frames + 1 ≤ R.frames ∧ 8 + (maxL + 11) + rm.locals ≤ R.locals) (hcs : cells + mc ≤ R.cells ∧ slots + ms ≤ R.slots) (hcat : (S.map (fun v => v.category)).sum ≤ 8)
    (hP : va_P D kcl (ws ++ [(q, .inr (c2, fs2))]) H) (hD : va_D A (ws ++ [(q, .inr (c2, fs2))])) (hSv : va_S A s.heap H locs) (hls : ls.size = nL)
    (kk : ∀ (b : Nat → Nat) (H1 : Heap) (locs1 : List Loc), va_P D kcl (ws ++ out cA q b) H1 → va_D A (ws ++ out cA q b) → va_S A s.heap H1 locs1 → W p l e R s m args below meth c H1 locs1 (cells + mc) (slots + ms) Q (F0 m (pc + 3) ls S)) :
    W p l e R s m args below meth c H locs cells slots Q (F0 m pc ls (.ref q :: S)) := by
  have hlast : (ws ++ [(q, .inr (c2, fs2))] : va_W)[ws.length]? = some (q, .inr (c2, fs2)) := by simp
  have hru : va_Run p l e R s m args below meth c H locs cells slots mc ms (F0 m pc ls (.ref q :: S)) S (nPost D kcl (fun z => z = q ∨ H.size ≤ z) (out cA q) ([Value.ref q]).toArray) (fun z => z = q ∨ H.size ≤ z) := by
    refine va_runI (As := []) (b := q) (rest := S) ⟨hx, hb, hml, hown, hts⟩ (hM D cA q (fun z => z = q ∨ H.size ≤ z)) ⟨hc.to hts hrm.1 hrm.2 hR, hn, hts _ hi⟩ ⟨nPre.blind, fun U hU hW => ⟨rfl, fun k z hz => ?_, va_K.moved hW.alike hK, fun z => by rw [hU], fun w hw => kNs_warm (List.mem_filter.mp hw).2 hW (hN w hw)⟩⟩ rfl rfl hls rfl (lv_room hcat) hd hcs
    rw [hU]
    cases k with
    | zero =>
      cases hz
      exact hP ws.length (q, .inr (c2, fs2)) hlast
    | succ k => cases hz
  have hpre : ∀ (k : Nat) (z : Nat × va_E), ws[k]? = some z → (ws ++ [(q, .inr (c2, fs2))] : va_W)[k]? = some z ∧ k < ws.length := fun k z hz => by
    have hk : k < ws.length := (List.getElem?_eq_some_iff.mp hz).1
    refine ⟨?_, hk⟩
    rw [List.getElem?_append_left hk]
    exact hz
  have hne : ∀ (k : Nat) (z : Nat × va_E), ws[k]? = some z → z.1 ≠ q ∧ z.1 < H.size := fun k z hz => by
    obtain ⟨h1, h2⟩ := hpre k z hz
    refine ⟨fun h3 => ?_, (hP k z h1).lt⟩
    have := hD.1 k ws.length z (q, .inr (c2, fs2)) h1 hlast h3
    omega
  have hPp : va_P D kcl ws H := fun k z hz => hP k z (hpre k z hz).1
  have hDp : va_D A ws := ⟨fun i j u v hi hj h => hD.1 i j u v (hpre i u hi).1 (hpre j v hj).1 h, fun k z hz => hD.2 k z (hpre k z hz).1⟩
  have hAq : A q := hD.2 _ _ hlast
  have hAA : ∀ z : Nat, (z = q ∨ H.size ≤ z) → A z := fun z hz => by
    rcases hz with rfl | hz
    · exact hAq
    · exact hA z (Nat.le_trans hSv.1 hz)
  intro T hT X
  obtain ⟨v, st₀, t, T', L2, h0, X', hL2, e1, e2, ⟨hv, ⟨b, hPb, hDb⟩, hF⟩, st⟩ := hru T hT X
  have hv : v = none := by injection hv
  subst hv
  have hF1 : H.size ≤ t.heap.size := by have := hF.1; rw [h0] at this; exact this
  have hF2 : ∀ z : Nat, z < H.size → ¬ (z = q ∨ H.size ≤ z) → t.heap[z]? = H[z]? := by have := hF.2; rw [h0] at this; exact this
  have hP2 : va_P D kcl (ws ++ out cA q b) t.heap :=
    va_P.app (hPp.kept fun k z hz => hF2 z.1 (hne k z hz).2 (fun h => by
      rcases h with h | h
      · exact (hne k z hz).1 h
      · exact absurd (hne k z hz).2 (Nat.not_lt.mpr h))) hPb
  have hD2 : va_D A (ws ++ out cA q b) :=
    va_D.app hDp (hDb.weaken fun _ z _ hz => hAA z.1 hz) fun i j u w hi hj h => by
      have h1 := hne i u hi
      have h2 := hDb.2 j w hj
      rw [← h] at h2
      rcases h2 with h2 | h2
      · exact h1.1 h2
      · exact absurd h1.2 (Nat.not_lt.mpr h2)
  obtain ⟨t2, a1, b1⟩ := kk b T'.heap (locs ++ L2) (by rw [e1]; exact hP2) hD2
    ⟨Nat.le_trans hSv.1 (by rw [e1]; exact hF1), fun z h1 h2 => by rw [e1, hF2 z (Nat.lt_of_lt_of_le h1 hSv.1) (fun h => h2 (hAA z h))]; exact hSv.2.1 z h1 h2, fun z hz => by
      rcases List.mem_append.mp hz with h | h
      · exact hSv.2.2 z h
      · exact hAA _ (hL2 z h)⟩ T' rfl X'
  exact ⟨t2, st t2 a1, b1⟩
def dl_K_s : List (Nat × Instr × Nat) := [(0, .new 8, 3), (3, .dup, 1), (4, .invokespecial 111, 3), (7, .astore_n 1, 1), (8, .new 112, 3), (11, .dup, 1), (12, .invokespecial 114, 3), (15, .astore_n 2, 1), (16, .iconst 1, 1), (17, .newarray .long, 2), (19, .astore_n 3, 1), (20, .iconst 0, 1), (21, .istore 4, 2)]
theorem dc_K_s : kdecs code dl_K_s = true := by decide +kernel
/-- the loop, once the objects are made -/
theorem st_end {p : Program} {e : Env} {s : State} {m : MethodId} {below : List Frame} {meth : Method} {c : Code} {l : Launch} (hfl : l.stackTraces = false) {b N : Nat} {xs : Nat → Int32} (hN : N ≤ 3072) (C0 : lw_At p s m meth c b N xs) {D : va_G} {cA : Nat → ClassId} {ae : Nat → Nat} (hEn : kEn ae (fun q => s.heap.size ≤ q) s s.heap) (hE : kEx s) (hK : va_K D kcl (ktys cA) s) {q1 q2 q3 : Nat} {b1 b2 : Nat → Nat} {H : Heap} {locs : List Loc} {cells slots : Nat} {ls : Array Slot} (hc : cells ≤ 100) (hsl : slots ≤ 40000)
    (hP : va_P D kcl (no_P cA q1 b1 ++ (no_M cA q2 b2 ++ [(q3, .inl (cA 3, (1, .inr (.inl (fun _ => Int64.ofInt 0)))))])) H) (hD : va_D (fun q => s.heap.size ≤ q) (no_P cA q1 b1 ++ (no_M cA q2 b2 ++ [(q3, .inl (cA 3, (1, .inr (.inl (fun _ => Int64.ofInt 0)))))]))) (hS : va_S (fun q => s.heap.size ≤ q) s.heap H locs)
    (hl : lv_has ls 7 [(0, .ref b), (1, .ref q1), (2, .ref q2), (3, .ref q3), (4, .int 0)]) : W p l e room_1 s m #[Value.ref b] below meth c H locs cells slots (lw_Z below #[Value.ref b] s) (F0 m 23 ls []) := by
  obtain ⟨hx, hb, hr, hml, hown, hts0, hX, hbl, hlocks, hgv⟩ := id C0
  have hts : ∀ w ∈ kG, w.before #[Value.ref b] s = true := fun w hw => hts0 w (List.mem_filter.mp hw).1
  obtain ⟨ad, had⟩ : ∃ ad : Nat → Nat, ad = fun k => if k < 71 then kaC q1 b1 k else if k < 96 then kaC q2 b2 (k - 71) else if k = 96 then q3 else b := ⟨_, rfl⟩
  have h1 : ∀ k : Nat, k < 71 → ad k = kaC q1 b1 k := fun k hk => by rw [had]; exact if_pos hk
  have h2 : ∀ k : Nat, k < 25 → ad (71 + k) = kaC q2 b2 k := fun k hk => by
    rw [had]
    show (if 71 + k < 71 then kaC q1 b1 (71 + k) else if 71 + k < 96 then kaC q2 b2 (71 + k - 71) else if 71 + k = 96 then q3 else b) = _
    rw [if_neg (by omega), if_pos (by omega), show 71 + k - 71 = k by omega]
  have h96 : ad 96 = q3 := by rw [had]; rfl
  have h97 : ad 97 = b := by rw [had]; rfl
  have h0 : ad 0 = q1 := by rw [had]; rfl
  have h71 : ad 71 = q2 := by rw [had]; rfl
  clear had
  have hw := kws_L (cA := cA) h1 h2
  rw [h96] at hw
  have C : kCx ((p, l, e, room_1, s, m, #[Value.ref b], below, meth, c), (D, kcl, cA, ad, ae, yL, (fun q => s.heap.size ≤ q), 7)) code "PoetFinesLaw" (some .boolean) kcl yL 7 l room_1 := ⟨rfl, rfl, rfl, rfl, rfl, hEn, hx, hb, hml, hr, hown, hts, hK, hlocks, fun q hq => hq⟩
  have hs : kSc ((p, l, e, room_1, s, m, #[Value.ref b], below, meth, c), (D, kcl, cA, ad, ae, yL, (fun q => s.heap.size ≤ q), 7)) N xs := by
    refine ⟨?_, ?_, ?_, hN⟩
    · rw [h97]; exact hX
    · rw [h97]; exact hbl
    · rw [h97]; exact Nat.not_le.mpr hbl
  have hlw : kLw ((p, l, e, room_1, s, m, #[Value.ref b], below, meth, c), (D, kcl, cA, ad, ae, yL, (fun q => s.heap.size ≤ q), 7)) := by
    refine ⟨?_, fun q hq => hq⟩
    rw [h97]
  have key := ls_loop C hs hE hlw hfl hN (N + 1) 0 (by omega) (by omega) cells slots k0C k0M (fun _ => 0) (by omega) (by omega) RR0
  refine key (kgood_rng kmg0_rng) (fun v hv => ?_) (fun v hv => by cases hv) H locs ls (by rw [hw]; exact hP) (by rw [hw]; exact hD) hS ?_
  · simp only [lL, List.mem_cons, Option.some.injEq, List.not_mem_nil, or_false, reduceCtorEq] at hv
    rcases hv with rfl | rfl | rfl | rfl | rfl
    · trivial
    · trivial
    · trivial
    · trivial
    · exact ⟨by decide, by decide⟩
  · refine ⟨hl.1, hl.2.1, fun q hq => hl.2.2 q ?_⟩
    have hq : q ∈ [(0, Value.ref (ad 97)), (1, Value.ref (ad 0)), (2, Value.ref (ad 71)), (3, Value.ref (ad 96)), (4, Value.int 0)] := hq
    rw [h97, h0, h71, h96] at hq
    exact hq
/-- from the law's entry -/
theorem whole_start {p : Program} {e : Env} {s : State} {m : MethodId} {below : List Frame} {meth : Method} {c : Code} (l : Launch) (hflags : l.flags = flags0) {b L : Nat} {xs : Nat → Int32} (hL : L ≤ 3072) (C0 : lw_At p s m meth c b L xs) : W p l e room_1 s m #[Value.ref b] below meth c s.heap [] 0 0 (lw_Z below #[Value.ref b] s) (entryFrame m ([Value.ref b] : List Value).toArray 7) := by
  obtain ⟨hx, hb, hr, hml, hown, hts0, hX, hbl, hlocks, hgv⟩ := id C0
  have hts : ∀ w ∈ kG, w.before #[Value.ref b] s = true := fun w hw => hts0 w (List.mem_filter.mp hw).1
  have hN : ∀ w ∈ kNs, va_Nw w s := fun w hw => va_Nw.of (kNw_on (List.mem_filter.mp hw).2) (hts0 w (List.mem_filter.mp hw).1)
  have hfl : l.stackTraces = false := by
    unfold Launch.stackTraces
    rw [hflags]
    decide +kernel
  obtain ⟨ae, hEn⟩ := kEn_start (A := fun q => s.heap.size ≤ q) hts0 hgv (fun a ha h => absurd ha (Nat.not_lt.mpr h))
  have hE := kEx_start hts0 hgv
  obtain ⟨D, cA, hK⟩ := st_K hts
  have hA : ∀ q : Nat, s.heap.size ≤ q → (fun q : Nat => s.heap.size ≤ q) q := fun _ h => h
  have hS : va_S (fun q : Nat => s.heap.size ≤ q) s.heap s.heap [] := va_S.rf
  have hP : va_P D kcl [] s.heap := fun k q h => by simp at h
  have hD : va_D (fun q : Nat => s.heap.size ≤ q) [] := ⟨fun i j p q h => by simp at h, fun k q h => by simp at h⟩
  have hl := lv_entry ([.ref b]) (n := 7) (Nat.le_of_ble_eq_true rfl)
  rw [lg_entry_eq]
  generalize (lg_sl ([.ref b]) ++ List.replicate (7 - (lg_sl ([.ref b])).length) Slot.unset).toArray = ls at hl ⊢
  have hl : lv_has ls 7 [(0, .ref b)] := hl
  refine va_new (Ts := kG) (ws := []) (ci := 10) (fs := nD kty10 12) hx hb hts kin10 kty10 kty10_ok hown (hts _ wx_c8) (hts _ wx_i12) (hts _ wl_112) hK hP hD hS hA rfl (fun j hj => nD_at hj) (Nat.le_of_ble_eq_true rfl) (Nat.le_of_ble_eq_true rfl) (kdec dc_K_s 0 rfl) (fun q1 H hP hD hS => ?_)
  refine lv_dup hx hb (kdec dc_K_s 1 rfl) rfl ?_
  refine st_callI (ws := []) hx hb hml hown hts hN hK hA (kdec dc_K_s 2 rfl) ⟨wx_m111, wl_112, wx_kP, ⟨by decide, by decide⟩, by decide +kernel⟩ rfl wx_iP (nt_P l) ⟨rfl, rfl⟩ ⟨Nat.le_of_ble_eq_true rfl, Nat.le_of_ble_eq_true rfl⟩ ⟨Nat.le_of_ble_eq_true rfl, Nat.le_of_ble_eq_true rfl⟩ (Nat.le_of_ble_eq_true rfl) hP hD hS hl.1 (fun b1 H locs hP hD hS => ?_)
  refine lv_astore_n (lv' := [(1, .ref q1), (0, .ref b)]) hx hb (kdec dc_K_s 3 rfl) rfl hl (by decide) rfl (fun ls hl => ?_)
  refine va_new (Ts := kG) (ws := no_P cA q1 b1) (ci := 11) (fs := nD kty11 64) hx hb hts kin11 kty11 kty11_ok hown (hts _ wx_c112) (hts _ wx_i64) (hts _ wl_123) hK hP hD hS hA rfl (fun j hj => nD_at hj) (Nat.le_of_ble_eq_true rfl) (Nat.le_of_ble_eq_true rfl) (kdec dc_K_s 4 rfl) (fun q2 H hP hD hS => ?_)
  refine lv_dup hx hb (kdec dc_K_s 5 rfl) rfl ?_
  refine st_callI (ws := no_P cA q1 b1) hx hb hml hown hts hN hK hA (kdec dc_K_s 6 rfl) ⟨wx_m114, wl_123, wx_kM, ⟨by decide, by decide⟩, by decide +kernel⟩ rfl wx_iM (nt_M l) ⟨rfl, rfl⟩ ⟨Nat.le_of_ble_eq_true rfl, Nat.le_of_ble_eq_true rfl⟩ ⟨Nat.le_of_ble_eq_true rfl, Nat.le_of_ble_eq_true rfl⟩ (Nat.le_of_ble_eq_true rfl) hP hD hS hl.1 (fun b2 H locs hP hD hS => ?_)
  refine lv_astore_n (lv' := [(2, .ref q2), (1, .ref q1), (0, .ref b)]) hx hb (kdec dc_K_s 7 rfl) rfl hl (by decide) rfl (fun ls hl => ?_)
  refine lv_iconst (v := 1) hx hb (kdec dc_K_s 8 rfl) (by decide) ?_
  refine va_newa (atype := .long) (ty := .long) (N' := 1) (a0 := (1, .inr (.inl (fun _ => Int64.ofInt 0)))) hx hb (hts _ wd_490) rfl hK hP hD hS hA (fun _ => rfl) (by decide) (by decide) (by decide) (Nat.le_of_ble_eq_true rfl) (Nat.le_of_ble_eq_true rfl) (kdec dc_K_s 9 rfl) (fun q3 cB H hK1 hP hD hS => ?_)
  have e1 : cB = cA 3 := by
    have h1 := (hK1.2 4 (cB, .long) rfl).2
    have h2 : va_RA s (cA 3) .long := (hK.2 3 _ rfl).2
    exact Option.some.inj (h1.symm.trans h2)
  subst e1
  refine lv_astore_n (lv' := [(3, .ref q3), (2, .ref q2), (1, .ref q1), (0, .ref b)]) hx hb (kdec dc_K_s 10 rfl) rfl hl (by decide) rfl (fun ls hl => ?_)
  refine lv_iconst (v := 0) hx hb (kdec dc_K_s 11 rfl) (by decide) ?_
  refine lv_istore (lv' := [(4, .int 0), (3, .ref q3), (2, .ref q2), (1, .ref q1), (0, .ref b)]) hx hb (kdec dc_K_s 12 rfl) hl (by decide) rfl (fun ls hl => ?_)
  refine st_end hfl hL C0 hEn hE hK (Nat.le_of_ble_eq_true rfl) (Nat.le_of_ble_eq_true rfl) (by rw [← List.append_assoc]; exact hP) (by rw [← List.append_assoc]; exact hD) hS (lv_sub hl [4, 3, 2, 1, 0] rfl)
