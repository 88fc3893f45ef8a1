/-! PAIRS: mend, undo, redo, farm, feed (wip/whole/f) -/
section MEND
variable {sl : Nat} {sx : Nat → Int32} {d n w f : Nat} {M : QM} {x y v : Int32}
theorem k_addC {a c s : Int32} {e : Nat} (he : e ≤ 40) (h3 : M.1 28 3 = nI e) : ∃ M' e', qK sl sx (d + 2) 1 [.ref 28, .int s, .int a, .int c] M = some (none, M') ∧ Fr [28, 29, 30, 31] M M' ∧ M'.1 28 3 = nI (e' + 1) ∧ M'.1 28 4 = nI (e' + 1) ∧ e' < 40 ∧ (e' = e ∨ e' + 1 = e ∧ e = 40) ∧ ∀ i, i ≤ e' → M'.1 29 i = (if i = e' then s else M.1 29 (i + (e - e'))) ∧ M'.1 30 i = (if i = e' then a else M.1 30 (i + (e - e'))) ∧ M'.1 31 i = (if i = e' then c else M.1 31 (i + (e - e'))) := by
  rw [e_X0_add, b_X0_add_0, h3]
  by_cases q : e < 40
  · have q1 : nI e < 40 := by rw [Int32.lt_iff_toInt_lt, nI_toInt (by omega), qv_40]; omega
    have q2 : ¬ nI e < 0 := nI_pos (by omega)
    have q3 : ¬ (40 : Int32) ≤ nI e := by rw [Int32.le_iff_toInt_le, nI_toInt (by omega), qv_40]; omega
    have q4 : ¬ (nI e < 0 ∨ 40 ≤ (nI e).toNatClampNeg) := nI_in q (by decide)
    rw [if_pos q1, if_neg q2, if_neg q3, if_neg q4, if_neg q4, if_neg q4, nI_clamp (by omega), nI_1]
    refine ⟨_, e, rfl, fr_up rfl (fr_up rfl (fr_up rfl (fr_up rfl (fr_up rfl fr_rf)))), ?_, ?_, q, Or.inl rfl, fun i hi => ⟨?_, ?_, ?_⟩⟩
    · dsimp only
      simp (disch := omega) only [q_up_s, q_up_a, q_up_k, q_uc_a, q_uc_s]
    · dsimp only
      simp (disch := omega) only [q_up_s, q_up_a, q_up_k, q_uc_a, q_uc_s]
    · dsimp only
      by_cases w : i = e
      · rw [if_pos w, w]
        simp (disch := omega) only [q_up_s, q_up_a, q_up_k, q_uc_a, q_uc_s]
      · rw [if_neg w]
        simp (disch := omega) only [q_up_s, q_up_a, q_up_k, q_uc_a, q_uc_s]
        rw [Nat.sub_self, Nat.add_zero]
    · dsimp only
      by_cases w : i = e
      · rw [if_pos w, w]
        simp (disch := omega) only [q_up_s, q_up_a, q_up_k, q_uc_a, q_uc_s]
      · rw [if_neg w]
        simp (disch := omega) only [q_up_s, q_up_a, q_up_k, q_uc_a, q_uc_s]
        rw [Nat.sub_self, Nat.add_zero]
    · dsimp only
      by_cases w : i = e
      · rw [if_pos w, w]
        simp (disch := omega) only [q_up_s, q_up_a, q_up_k, q_uc_a, q_uc_s]
      · rw [if_neg w]
        simp (disch := omega) only [q_up_s, q_up_a, q_up_k, q_uc_a, q_uc_s]
        rw [Nat.sub_self, Nat.add_zero]
  · have e40 : e = 40 := by omega
    subst e40
    have q1 : ¬ nI 40 < 40 := by decide
    have c39 : (39 : Int32) = nI 39 := by decide
    have q2 : ¬ nI 39 < 0 := by decide
    have q3 : ¬ (40 : Int32) ≤ nI 39 := by decide
    have q4 : ¬ (nI 39 < 0 ∨ 40 ≤ (nI 39).toNatClampNeg) := by decide
    rw [if_neg q1, e_X0_dropOldest, b_X0_dropOldest_0, q_bv_s]
    simp only [q_up_s, c39]
    rw [if_neg q2, if_neg q3, if_neg q4, if_neg q4, if_neg q4, nI_clamp (by decide), nI_1]
    refine ⟨_, 39, rfl, fr_up rfl (fr_up rfl (fr_up rfl (fr_up rfl (fr_up rfl (fr_up rfl (fr_uc (fun _ => rfl) (fr_uc (fun _ => rfl) (fr_uc (fun _ => rfl) fr_rf)))))))), ?_, ?_, by decide, Or.inr (by decide), fun i hi => ⟨?_, ?_, ?_⟩⟩
    · dsimp only
      simp (disch := omega) only [q_up_s, q_up_a, q_up_k, q_uc_a, q_uc_s]
    · dsimp only
      simp (disch := omega) only [q_up_s, q_up_a, q_up_k, q_uc_a, q_uc_s]
    · dsimp only
      by_cases w : i = 39
      · rw [if_pos w, w]
        simp (disch := omega) only [q_up_s, q_up_a, q_up_k, q_uc_a, q_uc_s]
      · rw [if_neg w]
        simp (disch := omega) only [q_up_s, q_up_a, q_up_k, q_uc_a, q_uc_s]
        unfold va_cpy
        rw [if_pos ⟨Nat.zero_le _, by omega⟩]
        show M.1 29 (1 + (i - 0)) = M.1 29 (i + 1)
        rw [show 1 + (i - 0) = i + 1 by omega]
    · dsimp only
      by_cases w : i = 39
      · rw [if_pos w, w]
        simp (disch := omega) only [q_up_s, q_up_a, q_up_k, q_uc_a, q_uc_s]
      · rw [if_neg w]
        simp (disch := omega) only [q_up_s, q_up_a, q_up_k, q_uc_a, q_uc_s]
        unfold va_cpy
        rw [if_pos ⟨Nat.zero_le _, by omega⟩]
        show M.1 30 (1 + (i - 0)) = M.1 30 (i + 1)
        rw [show 1 + (i - 0) = i + 1 by omega]
    · dsimp only
      by_cases w : i = 39
      · rw [if_pos w, w]
        simp (disch := omega) only [q_up_s, q_up_a, q_up_k, q_uc_a, q_uc_s]
      · rw [if_neg w]
        simp (disch := omega) only [q_up_s, q_up_a, q_up_k, q_uc_a, q_uc_s]
        unfold va_cpy
        rw [if_pos ⟨Nat.zero_le _, by omega⟩]
        show M.1 31 (1 + (i - 0)) = M.1 31 (i + 1)
        rw [show 1 + (i - 0) = i + 1 by omega]
theorem k9_drops (h : M.1 48 20 = nI 40) : ∃ M', qK sl sx (d + 1) 162 [.ref 48] M = some (none, M') ∧ Fr [4820, 56, 57, 58, 59] M M' ∧ M'.1 48 20 = nI 39 ∧ ∀ i, i < 39 → M'.1 56 i = M.1 56 (i + 1) ∧ M'.1 57 i = M.1 57 (i + 1) ∧ M'.1 58 i = M.1 58 (i + 1) ∧ M'.1 59 i = M.1 59 (i + 1) := by
  rw [e_X9_drops, b_X9_drops_0]
  obtain ⟨N0, hN0⟩ : ∃ N0, q_n1 = N0 ∧ 100 < N0 := ⟨999999, rfl, by decide⟩
  rw [hN0.1]
  refine q_lu (fun k i (_ : Unit) M' => qF sl sx d 162 k 2 [some (.ref 48), some (.int (nI i))] [] M') 40 (fun i _ M' => 1 ≤ i ∧ Fr [56, 57, 58, 59] M M' ∧ ∀ j, (j + 1 < i → M'.1 56 j = M.1 56 (j + 1) ∧ M'.1 57 j = M.1 57 (j + 1) ∧ M'.1 58 j = M.1 58 (j + 1) ∧ M'.1 59 j = M.1 59 (j + 1)) ∧ (i ≤ j + 1 → M'.1 56 j = M.1 56 j ∧ M'.1 57 j = M.1 57 j ∧ M'.1 58 j = M.1 58 j ∧ M'.1 59 j = M.1 59 j)) (fun o => ∃ M', o = some (none, M') ∧ Fr [4820, 56, 57, 58, 59] M M' ∧ M'.1 48 20 = nI 39 ∧ ∀ i, i < 39 → M'.1 56 i = M.1 56 (i + 1) ∧ M'.1 57 i = M.1 57 (i + 1) ∧ M'.1 58 i = M.1 58 (i + 1) ∧ M'.1 59 i = M.1 59 (i + 1)) (fun k i _ M' hi hI => ?_) (fun k _ M' hI => ?_) (i := 1) (s := ()) (by decide) (by omega) ⟨Nat.le_refl 1, fr_rf, fun j => ⟨fun q => by omega, fun _ => ⟨rfl, rfl, rfl, rfl⟩⟩⟩
  · obtain ⟨i1, i2, i3⟩ := hI
    right
    obtain ⟨p, rfl⟩ : ∃ p, i = p + 1 := ⟨i - 1, by omega⟩
    have q1 : ¬ (nI (p + 1) < 0 ∨ 40 ≤ (nI (p + 1)).toNatClampNeg) := nI_in hi (by decide)
    have q2 : ¬ (nI p < 0 ∨ 40 ≤ (nI p).toNatClampNeg) := nI_in (by omega) (by decide)
    have q3 : ¬ (40 : Int32) ≤ nI (p + 1) := by rw [Int32.le_iff_toInt_le, nI_toInt (by omega), qv_40]; omega
    refine ⟨(), (q_up (q_up (q_up (q_up M'.1 56 p (M'.1 56 (p + 1))) 57 p (M'.1 57 (p + 1))) 58 p (M'.1 58 (p + 1))) 59 p (M'.1 59 (p + 1)), M'.2), ⟨by omega, fr_up rfl (fr_up rfl (fr_up rfl (fr_up rfl i2))), fun j => ?_⟩, ?_⟩
    · have ie := (i3 (p + 1)).2 (Nat.le_succ _)
      by_cases e : j = p
      · subst e
        refine ⟨fun _ => ?_, fun q => by omega⟩
        dsimp only
        simp (disch := omega) only [q_up_s, q_up_a, q_up_k, q_uc_a, q_uc_s]
        exact ie
      · refine ⟨fun q => ?_, fun q => ?_⟩
        · dsimp only
          simp (disch := omega) only [q_up_s, q_up_a, q_up_k, q_uc_a, q_uc_s]
          exact (i3 j).1 (by omega)
        · dsimp only
          simp (disch := omega) only [q_up_s, q_up_a, q_up_k, q_uc_a, q_uc_s]
          exact (i3 j).2 (by omega)
    · rw [b_X9_drops_2, nI_pred, if_neg q3, if_neg q1, if_neg q2, if_neg q1, if_neg q2, if_neg q1, if_neg q2, if_neg q1, if_neg q2, nI_clamp (by omega), nI_clamp (by omega), nI_1]
  · obtain ⟨i1, i2, i3⟩ := hI
    rw [b_X9_drops_2, if_pos (show (40 : Int32) ≤ nI 40 by decide), i2.1 48 20 rfl, h]
    refine ⟨_, rfl, fr_up rfl (fr_mo rfl i2), ?_, fun i hi => ?_⟩
    · exact q_up1 _ _ _ _ _
    · dsimp only
      simp (disch := omega) only [q_up_s, q_up_a, q_up_k, q_uc_a, q_uc_s]
      exact (i3 i).1 (by omega)
theorem p_mend (x y v : Int32) : QPi sl sx JA 84 163 [.int x, .int y, .int v] := by
  intro M hJ
  obtain ⟨n, b, hF, hT, hL, hC, hD, hK, hS, hH⟩ := id hJ
  have n1 := k9_isNumber (sl := sl) (sx := sx) (d := 997) (x := x) (y := y) hF
  by_cases c : NU n x y
  · obtain ⟨w, f, rfl, rfl, va⟩ := nu_ex c
    have s1 := k_slotV (sl := sl) (sx := sx) (d := 997) hF va
    have v1 := fun M' => k_valueV (sl := sl) (sx := sx) (d := 998) (M := M') hF.1 va
    have q1 := k9_read (sl := sl) (sx := sx) (d := 998) (M := M) hF.1 va
    have hs := sn_lt hF.1 va
    have hm : ∀ M' : QM, qK sl sx 999 126 [.int v, .int (q_t0 w)] M' = some (some (.int (if rg v (mx w) then 1 else 0)), M') := by
      intro M'
      have := k_within (sl := sl) (sx := sx) (d := 998) (x := v) (y := q_t0 w) (M := M')
      rw [mx_t0 va.1] at this
      exact this
    have hm9 : ∀ M' : QM, qK sl sx 999 151 [.ref 48, .int v, .int 0, .int (q_t0 w)] M' = some (some (.int (if rg v (mx w) then 1 else 0)), M') := by
      intro M'
      have := k9_isIn (sl := sl) (sx := sx) (d := 998) (x := v) (y := 0) (z := q_t0 w) (M := M')
      rw [mx_t0 va.1, qv_0] at this
      exact this
    by_cases r : rg v (mx w)
    · by_cases e : rv M w f = v
      · refine ⟨v, M, M, ?_, ?_, hJ⟩
        · rw [e_X8_mend, b_X8_mend_0, s1, q_bi_s, if_neg (nI_pos (by omega)), k_mostOf va.1, q_bi_s, hm, q_bi_s, if_pos r, if_neg n10, v1, q_bi_s, jf_rv hF va, if_pos e, e]
        · rw [e_X9_mend, b_X9_mend_0, n1, q_bi_s, if_pos c, if_neg n10, k9_most va.1, q_bi_s, hm9, q_bi_s, if_pos r, if_neg n10, q1, q_bi_s, if_pos e, e]
      · obtain ⟨dn, s, c1, c2, c3, c4, c5, c6, c7⟩ := hC
        have ro := jf_rg hF va
        obtain ⟨M1, e', g1, g2, g3, g4, g5, g6, g7⟩ := k_addC (sl := sl) (sx := sx) (d := 997) (M := (q_up M.1 6 (sn w f) v, M.2)) (a := rv M w f) (c := v) (s := nI (sn w f)) (e := dn) (by omega) (by show q_up M.1 6 (sn w f) v 28 3 = _; rw [q_up_a _ _ _ _ (by decide)]; exact c3)
        have cl : qK sl sx 1000 84 [.ref 4, .int (nI f), .int (nI w), .int v] M = some (some (.int (rv M w f)), M1) := by
          rw [e_X8_mend, b_X8_mend_0, s1, q_bi_s, if_neg (nI_pos (by omega)), k_mostOf va.1, q_bi_s, hm, q_bi_s, if_pos r, if_neg n10, v1, q_bi_s, jf_rv hF va, if_neg e, k_writeV hF.1 va, q_bv_s, g1, q_bv_s]
        have f1 : Fr [6, 28, 29, 30, 31] M M1 := fr_t2 (l1 := [6]) rfl rfl (fr_up rfl fr_rf) g2
        have en : M1.1 48 0 = nI n := (f1.1 48 0 rfl).trans hF.2.2.1
        have rr : rv M1 w f = rv M w f := by
          unfold rv
          split
          · have : w = 0 ∨ w = 1 ∨ w = 2 ∨ w = 3 ∨ w = 4 := by omega
            rcases this with rfl | rfl | rfl | rfl | rfl <;> exact f1.1 _ _ rfl
          · have := va.1
            have : w = 5 ∨ w = 6 ∨ w = 7 := by omega
            rcases this with rfl | rfl | rfl <;> exact f1.1 48 _ rfl
        have nn : qK sl sx 999 159 [.ref 48, .int (nI f), .int (nI w)] M1 = some (some (.int 1), M1) := by
          rw [e_X9_isNumber, b_X9_isNumber_0]
          simp only [k9_isIn, k9_isFarm, q_bi_s, en, nI_toInt (show n < 2 ^ 31 by have := hF.1; omega), qv_0, qv_4, qv_5, qv_7]
          rcases c with c | c
          · simp only [if_pos (show 0 ≤ (nI w).toInt ∧ (nI w).toInt ≤ 4 from ⟨c.1, c.2.1⟩), if_pos (show 0 ≤ (nI f).toInt ∧ (nI f).toInt < (n : Int) from ⟨c.2.2.1, c.2.2.2⟩), if_neg n10]
          · simp only [if_neg (show ¬ (0 ≤ (nI w).toInt ∧ (nI w).toInt ≤ 4) by omega), if_pos (show 5 ≤ (nI w).toInt ∧ (nI w).toInt ≤ 7 from ⟨c.1, c.2.1⟩), if_neg n10, if_true, c.2.2]
        have q1' := k9_read (sl := sl) (sx := sx) (d := 998) (M := M1) hF.1 va
        rw [rr] at q1'
        have hd9 : ∃ M2, qK sl sx 1000 163 [.ref 48, .int (nI f), .int (nI w), .int v] M1 = some (some (.int (rv M w f)), wr M2 w f v) ∧ Fr [56, 57, 58, 59, 4820, 4821] M1 M2 ∧ M2.1 48 20 = nI (e' + 1) ∧ M2.1 48 21 = nI (e' + 1) ∧ ∀ i, i ≤ e' → M2.1 56 i = (if i = e' then nI f else M1.1 56 (i + (dn - e'))) ∧ M2.1 57 i = (if i = e' then nI w else M1.1 57 (i + (dn - e'))) ∧ M2.1 58 i = (if i = e' then rv M w f else M1.1 58 (i + (dn - e'))) ∧ M2.1 59 i = (if i = e' then v else M1.1 59 (i + (dn - e'))) := by
          have c4' : M1.1 48 20 = nI dn := (f1.1 48 20 rfl).trans c4
          have qe : ¬ (nI e' < 0 ∨ 40 ≤ (nI e').toNatClampNeg) := nI_in g5 (by decide)
          rw [e_X9_mend, b_X9_mend_0, nn, q_bi_s, if_neg n10, k9_most va.1, q_bi_s, hm9, q_bi_s, if_pos r, if_neg n10, q1', q_bi_s, if_neg e, c4']
          rcases g6 with rfl | ⟨g6, rfl⟩
          · rw [if_neg (show ¬ nI e' = 40 by rw [q_eqI, nI_toInt (by omega), qv_40]; omega)]
            have qe2 : ¬ (nI e' < 0 ∨ 40 ≤ e') := by rw [nI_clamp (by omega)] at qe; exact qe
            simp only [if_neg qe2, nI_clamp (show e' < 2 ^ 31 by omega), nI_1, k9_write hF.1 va, q_bv_s, q_up_s]
            refine ⟨(q_up (q_up (q_up (q_up (q_up (q_up M1.1 56 e' (nI f)) 57 e' (nI w)) 58 e' (rv M w f)) 59 e' v) 48 20 (nI (e' + 1))) 48 21 (nI (e' + 1)), M1.2), rfl, fr_up rfl (fr_up rfl (fr_up rfl (fr_up rfl (fr_up rfl (fr_up rfl fr_rf))))), ?_, ?_, fun i hi => ?_⟩
            · dsimp only
              simp (disch := omega) only [q_up_s, q_up_a, q_up_k, q_uc_a, q_uc_s]
            · dsimp only
              simp (disch := omega) only [q_up_s, q_up_a, q_up_k, q_uc_a, q_uc_s]
            · by_cases k : i = e'
              · subst k
                dsimp only
                simp only [if_true]
                simp (disch := omega) only [q_up_s, q_up_a, q_up_k, q_uc_a, q_uc_s]
                refine ⟨?_, ?_, ?_, ?_⟩ <;> first | rfl | trivial
              · dsimp only
                simp only [if_neg k]
                simp (disch := omega) only [q_up_s, q_up_a, q_up_k, q_uc_a, q_uc_s]
                rw [Nat.sub_self, Nat.add_zero]
                refine ⟨?_, ?_, ?_, ?_⟩ <;> first | rfl | trivial
          · have e39 : e' = 39 := by omega
            subst e39
            obtain ⟨M3, k1, k2, k3, k4⟩ := k9_drops (sl := sl) (sx := sx) (d := 998) (M := M1) c4'
            rw [if_pos (show nI 40 = 40 by decide), k1, q_bv_s, k3]
            simp only [if_neg qe, nI_clamp (show 39 < 2 ^ 31 by decide), nI_1, k9_write hF.1 va, q_bv_s, q_up_s]
            refine ⟨(q_up (q_up (q_up (q_up (q_up (q_up M3.1 56 39 (nI f)) 57 39 (nI w)) 58 39 (rv M w f)) 59 39 v) 48 20 (nI (39 + 1))) 48 21 (nI (39 + 1)), M3.2), rfl, fr_up rfl (fr_up rfl (fr_up rfl (fr_up rfl (fr_up rfl (fr_up rfl (fr_mo rfl k2)))))), ?_, ?_, fun i hi => ?_⟩
            · dsimp only
              simp (disch := omega) only [q_up_s, q_up_a, q_up_k, q_uc_a, q_uc_s]
            · dsimp only
              simp (disch := omega) only [q_up_s, q_up_a, q_up_k, q_uc_a, q_uc_s]
            · by_cases k : i = 39
              · subst k
                dsimp only
                simp only [if_true]
                simp (disch := omega) only [q_up_s, q_up_a, q_up_k, q_uc_a, q_uc_s]
                refine ⟨?_, ?_, ?_, ?_⟩ <;> first | rfl | trivial
              · dsimp only
                simp only [if_neg k]
                simp (disch := omega) only [q_up_s, q_up_a, q_up_k, q_uc_a, q_uc_s]
                exact k4 i (by omega)
        obtain ⟨M2, h1, h2, h3, h4, h5⟩ := hd9
        have f2 : Fr [56, 57, 58, 59, 4820, 4821, 49, 50, 51, 52, 53, 4801, 4802, 4803] M1 (wr M2 w f v) := fr_t2 rfl rfl h2 (wr_fr M2 w f v va.1)
        have ff := fr_t2 (l := [6, 28, 29, 30, 31, 56, 57, 58, 59, 4820, 4821, 49, 50, 51, 52, 53, 4801, 4802, 4803]) rfl rfl f1 f2
        refine ⟨rv M w f, M1, wr M2 w f v, cl, h1, n, b, ?_, jT_fr rfl ff hT, jL_fr rfl ff hL, ?_, jD_fr rfl ff hD, jK_fr rfl ff hK, jS_fr rfl ff hS, jH_fr rfl ff hH⟩
        · refine jF_both hF va r (M1 := M2) (fr_t2 rfl rfl f1 h2) (fun i => ?_) fr_rf
          rw [h2.1 6 i rfl, g2.1 6 i rfl]
          show q_up M.1 6 (sn w f) v 6 i = _
          unfold q_up
          by_cases k : i = sn w f
          · rw [if_pos ⟨rfl, k⟩, if_pos k]
          · rw [if_neg (fun q => k q.2), if_neg k]
        · refine ⟨e' + 1, e' + 1, Nat.le_refl _, by omega, ?_, ?_, ?_, ?_, fun i hi => ?_⟩
          · rw [f2.1 28 3 rfl]; exact g3
          · rw [wr_a _ _ _ _ (by omega) (by omega) va.1]; exact h3
          · rw [f2.1 28 4 rfl]; exact g4
          · rw [wr_a _ _ _ _ (by omega) (by omega) va.1]; exact h4
          · obtain ⟨a1, a2, a3⟩ := g7 i (by omega)
            obtain ⟨b1, b2, b3, b4⟩ := h5 i (by omega)
            rw [f2.1 29 i rfl, f2.1 30 i rfl, f2.1 31 i rfl, wr_a _ _ _ _ (by omega) (by omega) va.1, wr_a _ _ _ _ (by omega) (by omega) va.1, wr_a _ _ _ _ (by omega) (by omega) va.1, wr_a _ _ _ _ (by omega) (by omega) va.1, a1, a2, a3, b1, b2, b3, b4]
            by_cases k : i = e'
            · simp only [if_pos k]
              refine ⟨rfl, rfl, w, va.1, rfl, ro, r, ?_⟩
              unfold sn
              rcases va.2 with ⟨u1, u2⟩ | ⟨u1, u2⟩
              · exact Or.inl ⟨u1, f, u2, rfl, by rw [if_pos u1]⟩
              · exact Or.inr ⟨u1, by rw [u2]; rfl, by rw [if_neg (by omega)]⟩
            · simp only [if_neg k]
              have old := c7 (i + (dn - e')) (by omega)
              rw [f1.1 56 _ rfl, f1.1 57 _ rfl, f1.1 58 _ rfl, f1.1 59 _ rfl]
              try dsimp only
              rw [q_up_a _ _ _ _ (by decide), q_up_a _ _ _ _ (by decide), q_up_a _ _ _ _ (by decide)]
              exact old
    · refine ⟨-1, M, M, ?_, ?_, hJ⟩
      · rw [e_X8_mend, b_X8_mend_0, s1, q_bi_s, if_neg (nI_pos (by omega)), k_mostOf va.1, q_bi_s, hm, q_bi_s, if_neg r, if_pos rfl]
      · rw [e_X9_mend, b_X9_mend_0, n1, q_bi_s, if_pos c, if_neg n10, k9_most va.1, q_bi_s, hm9, q_bi_s, if_neg r, if_pos rfl]
  · refine ⟨-1, M, M, ?_, ?_, hJ⟩
    · rw [e_X8_mend, b_X8_mend_0, k_slotN hF c, q_bi_s, if_pos (show (-1 : Int32) < 0 by decide)]
    · rw [e_X9_mend, b_X9_mend_0, n1, q_bi_s, if_neg c, if_pos rfl]
end MEND
