/-! THE CLAIM OUT OF THE LOOP -/
/-- the loop of the law, over the clean machine: it answers true -/
theorem q_loop (L : Nat) (xs : Nat → Int32) (hL : L ≤ 3072) : ∃ (n : Nat) (M' : QM), qF L xs 1000 260 n 18 [some (.ref 3), some (.ref 4), some (.ref 48), some (.int 0)] [] q_M1 = some (some (.int 1), M') := by
  exact q_loop_of (q_pairs L xs) hL L 0 q_M1 (by omega) (by omega) ja_M1
theorem whole_start {p : Program} {e : Env} {s : State} {m : MethodId} {below : List Frame} {meth : Method} {c : Code} (l : Launch) (hflags : l.flags = flags0) {b L : Nat} {xs : Nat → Int32} (hL : L ≤ 3072) (C0 : lw_At p s m meth c b L xs) : W p l e room_1 s m #[Value.ref b] below meth c s.heap [] 0 0 (lw_Z below #[Value.ref b] s) (entryFrame m ([Value.ref b] : List Value).toArray 4) := by
  obtain ⟨hx, hb, hr, hml, hown, hts, hX, hbl, hlocks, hgv⟩ := C0
  obtain ⟨D, ty, tb, htb, hSt⟩ := q_st hts hX hbl hgv
  have htg : ∀ w ∈ q_GW, w.before #[Value.ref b] s = true := fun w hw => hts w (List.mem_filter.mp hw).1
  have cx : QCx D ty tb s.heap.size (qX L xs) p s m #[Value.ref b] c RL cL_law 4 := ⟨hx, hb, hml, hown, htg, hSt⟩
  have hg : ∀ pc E, q_cd 260 pc = some E → QGood l q_P RL cL_law 4 (some .boolean) pc E := fun pc E h => (q_prog l 260 pc E h).2
  have hgg : ∀ pc E, (fun pc => q_l1 m_L_law pc) pc = some E → (meth.name = "<init>" ∨ RL = "RungByHeartLaw") ∧ QGoodG l q_P q_B RL cL_law 4 pc E := fun pc E h => ⟨Or.inr rfl, q_lg_of _ gm_L_law pc E h⟩
  obtain ⟨n, M', hrun⟩ := q_loop L xs hL
  have hCG := q_gsim (ct := q_ct) (q_prog l) (q_progG l) (D := D) (ty := ty) (tb := tb) (base := s.heap.size) (X := qX L xs) 1000
  have e3 : ([.ref 3] : List Value).map (q_rv tb s.heap.size) = [.ref b] := by simp [q_rv, q_rho, htb]
  have hlr := q_entry_lr tb s.heap.size 4 [.ref 3] (by decide)
  rw [e3] at hlr
  rw [lg_entry_eq]
  refine q_gin_sim (s0 := 0) (R := room_1) (ret := some .boolean) (q_prog l) hg hgg cx hCG ⟨by decide, by decide, Nat.add_le_add_left (by decide) _, by decide, Nat.le_refl _⟩ (fun pc L' S G M h => ?_) (fun v G M h => by cases h) 400 0 (q_entry 4 [.ref 3]) [] [] q_M0 (q_start_ok L xs) 0 0 rfl rfl (by decide) (by decide) s.heap [] _ ⟨fun k q h => by simp [q_W] at h, va_S.rf⟩ hlr
  cases h
  intro cells slots z1 z2 z3 z4
  have hc : cells = 73 := by
    have : qG0.length = 73 := by decide
    omega
  have hs : slots ≤ 10000 := by omega
  refine q_out_sim (r := (some (.int 1), M')) (ret := some .boolean) hg cx (q_sim (q_prog l) 1000) ⟨by decide, by decide, by rw [hc]; decide, Nat.le_trans hs (by decide), z1, Nat.le_refl _⟩ ?_ n 18 _ [] _ hrun
  intro hok pcr H locs ls hR hd
  refine va_forget (fun q hq => hR.2.2.2 q hq) ?_
  refine W.widen (k := 600000) (n := 7302250) (by rw [hc]; decide) (Nat.le_trans hs (by decide)) ?_
  exact lw_ret hx hb hr hlocks hd
