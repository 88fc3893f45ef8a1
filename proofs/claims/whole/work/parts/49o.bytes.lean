/-! PAIRS: asTold, deaf (wip/whole/f) -/
def ff (E : Nat → Bool) : Nat → Nat → Int32
  | 0, _ => -2
  | k + 1, i => if E i = true then nI i else ff E k (i + 1)
theorem q_ff (F : Nat → Nat → QM → Option (Option Value × QM)) (l : List Nat) (E : Nat → Bool) (z : Nat) (I : Nat → QM → Prop) (step : ∀ k i M, i < z → I i M → ∃ M', Fr l M M' ∧ ((E i = true ∧ F (k + 1) i M = some (some (.int (nI i)), M')) ∨ (E i = false ∧ I (i + 1) M' ∧ F (k + 1) i M = F k (i + 1) M'))) (fin : ∀ k M, I z M → F (k + 1) z M = some (some (.int (-2)), M)) : ∀ j i k M, i + j = z → j < k → I i M → ∃ M', F k i M = some (some (.int (ff E j i)), M') ∧ Fr l M M' := by
  intro j
  induction j with
  | zero =>
    intro i k M hz hk hI
    obtain ⟨k, rfl⟩ : ∃ k', k = k' + 1 := ⟨k - 1, by omega⟩
    have : i = z := by omega
    subst this
    exact ⟨M, fin k M hI, fr_rf⟩
  | succ j ih =>
    intro i k M hz hk hI
    obtain ⟨k, rfl⟩ : ∃ k', k = k' + 1 := ⟨k - 1, by omega⟩
    obtain ⟨M', f, h | h⟩ := step k i M (by omega) hI
    · refine ⟨M', ?_, f⟩
      rw [h.2, ff, if_pos h.1]
    · obtain ⟨M2, g1, g2⟩ := ih (i + 1) k M' (by omega) (by omega) h.2.1
      refine ⟨M2, ?_, fr_tr f g2⟩
      rw [h.2.2, g1, ff, if_neg (by rw [h.1]; exact Bool.false_ne_true)]
theorem ff_congr {E E' : Nat → Bool} : ∀ k i, (∀ j, i ≤ j → j < i + k → E j = E' j) → ff E k i = ff E' k i := by
  intro k
  induction k with
  | zero => intro i _; rfl
  | succ k ih =>
    intro i h
    rw [ff, ff, h i (Nat.le_refl i) (by omega), ih (i + 1) (fun j h1 h2 => h j (by omega) (by omega))]
theorem sh2 {n : Nat} (h : n ≤ 10) : (1 : Int32) <<< (nI n &&& 31) = nI (2 ^ n) ∧ 2 ^ n ≤ 1024 := by
  have : ∀ k : Fin 11, (1 : Int32) <<< (nI k.1 &&& 31) = nI (2 ^ k.1) ∧ 2 ^ k.1 ≤ 1024 := by decide
  exact this ⟨n, by omega⟩
section BYTES
variable {sl : Nat} {sx : Nat → Int32} {d n s z f t : Nat} {M : QM} {x y set : Int32} {D R : Nat → Int32}
def BR (M : QM) (s z : Nat) (R : Nat → Int32) : Prop := s < 6 ∧ z ≤ 60 ∧ M.1 73 s = nI z ∧ M.1 (36 + 2 * s) 1 = nI z ∧ M.1 (36 + 2 * s) 0 = 0 ∧ M.1 71 s = 2 ∧ M.1 72 s = nI 0 ∧ ∀ i, i < 60 → M.2 (37 + 2 * s) i = M.2 75 (60 * s + i) ∧ (M.2 75 (60 * s + i)).toInt32.toInt64 = M.2 75 (60 * s + i) ∧ (M.2 75 (60 * s + i)).toInt32 = R i
theorem br_fr {l : List Nat} {M' : QM} (h : kH.all (fun x => !(l.elem x)) = true) (f : Fr l M M') (j : BR M s z R) : BR M' s z R := by
  have e := fr_dis h f
  have e2 := fr_dis2 h f
  obtain ⟨k1, k2⟩ := kH_a j.1
  unfold BR at j ⊢
  rw [show M'.1 (36 + 2 * s) = M.1 (36 + 2 * s) from funext fun k => e _ k (k1 k), show M'.2 (37 + 2 * s) = M.2 (37 + 2 * s) from funext fun k => e2 _ k k2, e 71 s rfl, e 72 s rfl, e 73 s rfl, show M'.2 75 = M.2 75 from funext fun k => e2 75 k rfl]
  exact j
/-- what a shelf says where bytes are wanted -/
theorem br_of {b : Nat} (hs : s < 6) (hH : JH b M) : (∃ v : Int32, ¬ v = 0 ∧ (∀ d, qK sl sx (d + 1) 49 [.ref (36 + 2 * s)] M = some (some (.int 0), M)) ∧ (∀ d, qK sl sx (d + 2) 50 [.ref (36 + 2 * s)] M = some (some (.int v), M)) ∧ ∀ d, qK sl sx (d + 1) 207 [.ref 48, .int (nI s)] M = some (some (.int v), M)) ∨ (∃ z R, BR M s z R) := by
  have hq := qs_is hs
  rcases hH s hs with ⟨h1, h2⟩ | ⟨h1, h2, _⟩ | ⟨h1, o, z, ho, hz, h2, h3, h4, h5, h6⟩
  · refine Or.inl ⟨-11, by decide, fun d => ?_, fun d => ?_, fun d => k9_barsN hs h1⟩
    · rw [k_holdsBytes hq, h2, if_neg (by decide)]
    · rw [k_refusal hq, h2, if_pos rfl]
  · refine Or.inl ⟨-12, by decide, fun d => ?_, fun d => ?_, fun d => k9_barsS hs h1⟩
    · rw [k_holdsBytes hq, h2, if_neg (by decide)]
    · rw [k_refusal hq, h2, if_neg (by decide)]
  · by_cases q : o = 0
    · subst q
      exact Or.inr ⟨z, fun i => (M.2 75 (60 * s + i)).toInt32, hs, hz, h4, h5, h3, h1, h2, fun i hi => ⟨(h6 i hi).1, (h6 i hi).2 rfl, rfl⟩⟩
    · have ne1 : ¬ nI o = -1 := fun e => by
        have := nI_pos (n := o) (by omega)
        rw [e] at this
        exact this (by decide)
      refine Or.inl ⟨-12, by decide, fun d => ?_, fun d => ?_, fun d => ?_⟩
      · rw [k_holdsBytes hq, h3, if_neg (nI_ne0 (by omega) (by omega))]
      · rw [k_refusal hq, h3, if_neg ne1]
      · rw [k9_barsR hs h1 h2 ho, if_neg q]
theorem br_49 (h : BR M s z R) : qK sl sx (d + 1) 49 [.ref (36 + 2 * s)] M = some (some (.int 1), M) := by
  rw [k_holdsBytes (qs_is h.1), h.2.2.2.2.1, if_pos rfl]
theorem br_207 (h : BR M s z R) : qK sl sx (d + 1) 207 [.ref 48, .int (nI s)] M = some (some (.int 0), M) := by
  rw [k9_barsR h.1 h.2.2.2.2.2.1 h.2.2.2.2.2.2.1 (by decide), if_pos rfl]
theorem br_56 (h : BR M s z R) {i : Nat} (hi : i < z) : qK sl sx (d + 2) 56 [.ref (36 + 2 * s), .int (nI i)] M = some (some (.long (M.2 75 (60 * s + i))), M) := by
  rw [k_cellZ h.1 h.2.2.2.1 h.2.1 hi, (h.2.2.2.2.2.2.2 i (by have := h.2.1; omega)).1]
theorem br_247 (h : BR M s z R) {i : Nat} (hi : i < z) : qK sl sx (d + 1) 247 [.ref 48, .int (nI s), .int (nI i)] M = some (some (.int (R i)), M) := by
  rw [k9_intAt h.1 (by have := h.2.1; omega), (h.2.2.2.2.2.2.2 i (by have := h.2.1; omega)).2.2]
theorem br_cmp (h : BR M s z R) {i : Nat} (hi : i < z) (v : Int32) : lg_cmp v.toInt64 (M.2 75 (60 * s + i)) = 0 ↔ v = R i := by
  obtain ⟨_, h2, h3⟩ := h.2.2.2.2.2.2.2 i (by have := h.2.1; omega)
  rw [← h3]
  exact by_eq h2
def FY (M : QM) (f n : Nat) (D : Nat → Int32) : Prop := FD M f n ∧ dyS (M.1 (f + 1) 51) (fS (M.1 (f + 1))) n (ST M) = D
theorem fy_fr {M' : QM} (hf : qIsF f) (ht : qIsT t) (h : Fr [t, t + 1, 13, 1703, 19] M M') (hF : FY M f n D) : FY M' f n D := by
  obtain ⟨h1, h2, h3⟩ := fd_fr hf ht h hF.1
  refine ⟨h1, ?_⟩
  rw [h2, h3]
  exact hF.2
theorem k_step {m : Nat} (hf : qIsF f) (ht : qIsT t) (hF : FY M f n D) (hT : TW M t m D) (hm : m < 300) : ∃ M', qK sl sx (d + 6) 135 [.ref 4, .ref f, .ref t] M = some (none, M') ∧ Fr [t, t + 1, 13, 1703, 19] M M' ∧ TW M' t (m + 1) D := by
  obtain ⟨h1, h2⟩ := hF
  have e : ∀ k j, j ≤ k → cD M f n k j = D j := fun k j hj => by
    rw [← h2]
    exact dyS_dt hj
  obtain ⟨M', c1, c2, c3⟩ := k_ringNext (sl := sl) (sx := sx) (d := d) (h := cD M f n m) (h' := cD M f n (m + 1)) hf ht h1 (tw_congr (fun j hj => (e m j hj).symm) hT) hm (cD_R h1.2.2.2.2 _) (fun j hj => dt_k _ _ hj) (dt_s _ _ _)
  exact ⟨M', c1, c2, tw_congr (fun j hj => e _ j hj) c3⟩
theorem k_beginT (ht : qIsT t) (h0 : D 0 = x) : ∃ M', qK sl sx (d + 1) 73 [.ref t, .int x] M = some (none, M') ∧ Fr [t, t + 1] M M' ∧ TW M' t 0 D := by
  refine ⟨_, k_begin ht, ?_, ?_, ?_, by omega, ?_⟩
  · rcases ht with rfl | rfl | rfl | rfl <;> exact fr_up rfl (fr_up rfl (fr_up rfl fr_rf))
  · show q_up (q_up (q_up M.1 (t + 1) 0 x) t 1 0) t 2 1 t 1 = _
    simp (disch := omega) only [q_up_s, q_up_a, q_up_k, q_uc_a, q_uc_s]
    rfl
  · show q_up (q_up (q_up M.1 (t + 1) 0 x) t 1 0) t 2 1 t 2 = _
    simp (disch := omega) only [q_up_s, q_up_a, q_up_k, q_uc_a, q_uc_s]
    rfl
  · intro j hj
    show q_up (q_up (q_up M.1 (t + 1) 0 x) t 1 0) t 2 1 (t + 1) j = _
    have : j = 0 := by omega
    subst this
    simp (disch := omega) only [q_up_s, q_up_a, q_up_k, q_uc_a, q_uc_s]
    exact h0.symm
/-- the first of the row's bytes that the day does not strike -/
def eT (D R : Nat → Int32) : Nat → Bool := fun i => decide (¬ D i = R i)
theorem k_untold (hf : qIsF f) (hF : FY M f n D) (hB : BR M s z R) : ∃ M', qK sl sx (d + 8) 146 [.ref 4, .ref (36 + 2 * s), .ref f] M = some (some (.int (ff (eT D R) z 0)), M') ∧ Fr [11, 12, 13, 1703, 19] M M' := by
  have hs := hB.1
  have hq := qs_is hs
  have h6 := hB.2.1
  have ht : qIsT 11 := Or.inr (Or.inl rfl)
  have h0 : D 0 = M.1 (f + 1) 51 := by
    rw [← hF.2]
    rfl
  obtain ⟨M1, a1, a2, a3⟩ := k_beginT (sl := sl) (sx := sx) (d := d + 6) (M := M) (D := D) ht h0
  have a2' : Fr [11, 12, 13, 1703, 19] M M1 := fr_mo rfl a2
  rw [e_X8_firstUntold, b_X8_firstUntold_0, qF_rc hf, k_common6 hf, q_bi_s, a1, q_bv_s]
  obtain ⟨M', g1, g2⟩ := q_ff (fun k i M' => qF sl sx (d + 7) 146 k 15 [some (.ref 4), some (.ref (36 + 2 * s)), some (.ref f), some (.int (nI i))] [] M') [11, 12, 13, 1703, 19] (eT D R) z (fun i M' => FY M' f n D ∧ BR M' s z R ∧ TW M' 11 (i - 1) D) (fun k i M' hi hI => by
        obtain ⟨i1, i2, i3⟩ := hI
        have key : ∀ M2, Fr [11, 12, 13, 1703, 19] M' M2 → TW M2 11 i D → ∃ M3, Fr [11, 12, 13, 1703, 19] M' M3 ∧ ((eT D R i = true ∧ q_bi (qK sl sx (d + 7) 75 [.ref 11, .int (nI i)] M2) (fun v5 M4 => q_rc qG0 (qX sl sx) (some 5) [.ref (36 + 2 * s), .int (nI i)] (q_bl (qK sl sx (d + 7) 56 [.ref (36 + 2 * s), .int (nI i)] M4) (fun v7 M6 => if (lg_cmp v5.toInt64 v7) = 0 then (qF sl sx (d + 7) 146 k 15 [some (.ref 4), some (.ref (36 + 2 * s)), some (.ref f), some (.int (nI i + 1))] [] M6) else (some (some (.int (nI i)), M6))))) = some (some (.int (nI i)), M3)) ∨ (eT D R i = false ∧ (FY M3 f n D ∧ BR M3 s z R ∧ TW M3 11 (i + 1 - 1) D) ∧ q_bi (qK sl sx (d + 7) 75 [.ref 11, .int (nI i)] M2) (fun v5 M4 => q_rc qG0 (qX sl sx) (some 5) [.ref (36 + 2 * s), .int (nI i)] (q_bl (qK sl sx (d + 7) 56 [.ref (36 + 2 * s), .int (nI i)] M4) (fun v7 M6 => if (lg_cmp v5.toInt64 v7) = 0 then (qF sl sx (d + 7) 146 k 15 [some (.ref 4), some (.ref (36 + 2 * s)), some (.ref f), some (.int (nI i + 1))] [] M6) else (some (some (.int (nI i)), M6))))) = qF sl sx (d + 7) 146 k 15 [some (.ref 4), some (.ref (36 + 2 * s)), some (.ref f), some (.int (nI (i + 1)))] [] M3)) := by
          intro M2 f2 t2
          have b2 : BR M2 s z R := br_fr rfl f2 i2
          refine ⟨M2, f2, ?_⟩
          rw [k_atN ht t2 (Nat.le_refl i), q_bi_s, qS_rc hq, br_56 b2 hi, q_bl_s, nI_1]
          by_cases c : D i = R i
          · right
            refine ⟨decide_eq_false (fun q => q c), ⟨fy_fr hf ht f2 i1, b2, t2⟩, ?_⟩
            rw [if_pos ((br_cmp b2 hi _).mpr c)]
          · left
            refine ⟨decide_eq_true c, ?_⟩
            rw [if_neg (fun q => c ((br_cmp b2 hi _).mp q))]
        have g : ∀ o : Option (Option Value × QM), (if (M'.1 (36 + 2 * s) 1) ≤ nI i then (some (some (.int (-2)), M')) else o) = o := fun o => by rw [i2.2.2.2.1, if_neg (nI_ge hi (by omega))]
        by_cases c : i = 0
        · subst c
          obtain ⟨M3, k1, k2⟩ := key M' fr_rf i3
          refine ⟨M3, k1, ?_⟩
          rw [b_X8_firstUntold_15, qS_O hq, g, if_pos (by decide)]
          exact k2
        · obtain ⟨M2, c1, c2, c3⟩ := k_step (sl := sl) (sx := sx) (d := d + 1) hf ht i1 i3 (by omega)
          rw [show i - 1 + 1 = i by omega] at c3
          obtain ⟨M3, k1, k2⟩ := key M2 c2 c3
          refine ⟨M3, k1, ?_⟩
          rw [b_X8_firstUntold_15, qS_O hq, g, if_neg (show ¬ nI i ≤ 0 by rw [Int32.le_iff_toInt_le, nI_toInt (by omega), show (0 : Int32).toInt = 0 by decide]; omega), c1, q_bv_s]
          exact k2) (fun k M' hI => by
        obtain ⟨i1, i2, i3⟩ := hI
        rw [b_X8_firstUntold_15, qS_O hq, i2.2.2.2.1, if_pos (Int32.le_refl _)]) z 0 q_n1 M1 (by omega) (q_n1b (by omega)) ⟨fy_fr hf ht a2' hF, br_fr rfl a2' hB, a3⟩
  exact ⟨M', g1, fr_tr a2' g2⟩
theorem k9_untold (hF : JF n M) (hL : JL M) (hB : BR M s z R) : ∃ M', qK sl sx (d + 204) 226 [.ref 48, .int (nI s), .int set] M = some (some (.int (ff (eT (dyM M n set) R) z 0)), M') ∧ Fr kY M M' := by
  have hs := hB.1
  have h6 := hB.2.1
  obtain ⟨M1, M2, a1, a2, a3, a4, _⟩ := k9_mute (sl := sl) (sx := sx) (d := d) (x := 60) (set := set) hF hL (by decide)
  rw [show (60 : Int32).toInt.toNat = 60 by decide] at a4
  have b2 : BR M2 s z R := br_fr rfl a3 hB
  rw [e_X9_unlikeRung, b_X9_unlikeRung_0, a1, q_bv_s, a2, q_bv_s]
  obtain ⟨M', g1, g2⟩ := q_ff (fun k i M' => qF sl sx (d + 203) 226 k 17 [some (.ref 48), some (.int (nI s)), none, some (.int (nI i))] [] M') [] (eT (dyM M n set) R) z (fun _ M' => M' = M2) (fun k i M' hi hI => by
        subst hI
        refine ⟨M', fr_rf, ?_⟩
        rw [b_X9_unlikeRung_17, if_neg (s6 hs), s6c hs, b2.2.2.1, if_neg (nI_ge hi (by omega)), br_247 b2 hi, q_bi_s, if_neg (nI_in (by omega) (by decide)), nI_clamp (by omega), a4 i (by omega), nI_1]
        by_cases c : dyM M n set i = R i
        · right
          refine ⟨decide_eq_false (fun q => q c), rfl, ?_⟩
          rw [if_pos c.symm]
        · left
          refine ⟨decide_eq_true c, ?_⟩
          rw [if_neg (fun q => c q.symm)]) (fun k M' hI => by
        subst hI
        rw [b_X9_unlikeRung_17, if_neg (s6 hs), s6c hs, b2.2.2.1, if_pos (Int32.le_refl _)]) z 0 q_n1 M2 (by omega) (q_n1b (by omega)) rfl
  exact ⟨M', g1, fr_tr a3 (fr_mo rfl g2)⟩
theorem jf_FY (hF : JF n M) : FY M 5 n (dyP M n) := ⟨jf_FD hF, rfl⟩
theorem p_asTold (x : Int32) : QPi sl sx JA 105 227 [.int x] := by
  intro M hJ
  obtain ⟨n, b, hF, hT, hL, hC, hD, hK, hS, hH⟩ := id hJ
  rcases in6 (x := x) with hx | hx
  rotate_left
  · refine ⟨-1, M, M, ?_, ?_, hJ⟩
    · rw [e_X8_asTold, b_X8_asTold_0, k_shelfN hx, q_br_n]
    · rw [e_X9_asTold, b_X9_asTold_0, k9_isShelfN hx, q_bi_s, if_pos rfl]
  have ex : x = nI x.toInt.toNat := q_ofN hx.1
  have hs : x.toInt.toNat < 6 := by omega
  generalize x.toInt.toNat = s at *
  subst ex
  have hq := qs_is hs
  rcases br_of (sl := sl) (sx := sx) hs hH with ⟨v, v0, g1, g2, g3⟩ | ⟨z, R, hB⟩
  · refine ⟨v, M, M, ?_, ?_, hJ⟩
    · rw [e_X8_asTold, b_X8_asTold_0, k_shelfY hs, q_br_s, qS_rc hq, g1, q_bi_s, if_pos rfl, qS_rc hq, g2, q_bi_s]
    · rw [e_X9_asTold, b_X9_asTold_0, k9_isShelfY hs, q_bi_s, if_neg n10, g3, q_bi_s, if_neg v0, g3, q_bi_s]
  obtain ⟨M1, a1, a2⟩ := k_untold (sl := sl) (sx := sx) (d := 991) (Or.inl rfl) (jf_FY hF) hB
  have f1 : Fr kY M M1 := fr_mo rfl a2
  obtain ⟨M2, b1, b2⟩ := k9_untold (sl := sl) (sx := sx) (d := 795) (set := 0) (jF_fr rfl f1 hF) (jL_fr rfl f1 hL) (br_fr rfl f1 hB)
  have e : dyM M1 n 0 = dyP M n := by
    rw [dyM_kY f1]
    exact funext fun j => dyM_0 hF.1 (jf_FD hF).2.2.2.2 j
  rw [e] at b1
  refine ⟨ff (eT (dyP M n) R) z 0, M1, M2, ?_, ?_, ja_kY b2 (ja_kY f1 hJ)⟩
  · rw [e_X8_asTold, b_X8_asTold_0, k_shelfY hs, q_br_s, qS_rc hq, br_49 hB, q_bi_s, if_neg n10, a1, q_bi_s]
  · rw [e_X9_asTold, b_X9_asTold_0, k9_isShelfY hs, q_bi_s, if_neg n10, br_207 (br_fr rfl f1 hB), q_bi_s, if_pos rfl, b1, q_bi_s]
theorem ff_m2 {E : Nat → Bool} : ∀ k i, i + k < 2 ^ 31 → (ff E k i = -2 ∨ 0 ≤ (ff E k i).toInt) := by
  intro k
  induction k with
  | zero => intro i _; exact Or.inl rfl
  | succ k ih =>
    intro i h
    rw [ff]
    split
    · right
      rw [nI_toInt (by omega)]
      omega
    · exact ih (i + 1) (by omega)
/-- a set of farms to make deaf, so that the row is struck -/
def eD2 (M : QM) (n z : Nat) (R : Nat → Int32) : Nat → Bool := fun k => decide (ff (eT (dyM M n (nI k)) R) z 0 = -2)
theorem p_deaf (x : Int32) : QPi sl sx JA 106 228 [.int x] := by
  intro M hJ
  obtain ⟨n, b, hF, hT, hL, hC, hD, hK, hS, hH⟩ := id hJ
  rcases in6 (x := x) with hx | hx
  rotate_left
  · refine ⟨-1, M, M, ?_, ?_, hJ⟩
    · rw [e_X8_deaf, b_X8_deaf_0, k_shelfN hx, q_br_n]
    · rw [e_X9_deaf, b_X9_deaf_0, k9_isShelfN hx, q_bi_s, if_pos rfl]
  have ex : x = nI x.toInt.toNat := q_ofN hx.1
  have hs : x.toInt.toNat < 6 := by omega
  generalize x.toInt.toNat = s at *
  subst ex
  have hq := qs_is hs
  rcases br_of (sl := sl) (sx := sx) hs hH with ⟨v, v0, g1, g2, g3⟩ | ⟨z, R, hB⟩
  · refine ⟨v, M, M, ?_, ?_, hJ⟩
    · rw [e_X8_deaf, b_X8_deaf_0, k_shelfY hs, q_br_s, qS_rc hq, g1, q_bi_s, if_pos rfl, qS_rc hq, g2, q_bi_s]
    · rw [e_X9_deaf, b_X9_deaf_0, k9_isShelfY hs, q_bi_s, if_neg n10, g3, q_bi_s, if_neg v0, g3, q_bi_s]
  obtain ⟨p1, p2⟩ := sh2 hF.1
  obtain ⟨M1, c1, c2⟩ := q_ff (fun k i M' => qF sl sx 999 106 k 37 [some (.ref 4), none, some (.ref (36 + 2 * s)), some (.int (nI (2 ^ n))), some (.int (nI i))] [] M') kZ (eD2 M n z R) (2 ^ n) (fun _ M' => Fr kZ M M') (fun k i M' hi hI => by
      obtain ⟨M2, a1, a2, a3, a4⟩ := k_thinkDeaf (sl := sl) (sx := sx) (d := 996) (M := M') (set := nI i) (jF_fr rfl hI hF)
      obtain ⟨t1, t2⟩ := td_FD (jF_fr rfl hI hF) a2 a3 a4
      have fy : FY M2 7 n (dyM M n (nI i)) := ⟨t1, by rw [← dyM_kZ hI]; exact funext t2⟩
      obtain ⟨M3, u1, u2⟩ := k_untold (sl := sl) (sx := sx) (d := 991) (Or.inr rfl) fy (br_fr rfl a2 (br_fr rfl hI hB))
      have f3 : Fr kZ M' M3 := fr_t2 rfl rfl a2 u2
      refine ⟨M3, f3, ?_⟩
      rw [b_X8_deaf_37, if_neg (nI_ge hi (by omega)), a1, q_bv_s, u1, q_bi_s, nI_1]
      by_cases c : ff (eT (dyM M n (nI i)) R) z 0 = -2
      · left
        refine ⟨decide_eq_true c, ?_⟩
        rw [if_pos c]
      · right
        refine ⟨decide_eq_false c, fr_tr hI f3, ?_⟩
        rw [if_neg c]) (fun k M' hI => by
      rw [b_X8_deaf_37, if_pos (Int32.le_refl _)]) (2 ^ n) 0 q_n1 M (by omega) (q_n1b (by omega)) fr_rf
  have f1 : Fr kY M M1 := fr_mo rfl c2
  have hF1 := jF_fr rfl f1 hF
  obtain ⟨M2, d1, d2⟩ := q_ff (fun k i M' => qF sl sx 999 228 k 26 [some (.ref 48), some (.int (nI s)), some (.int (nI i))] [] M') kY (eD2 M n z R) (2 ^ n) (fun _ M' => Fr kY M1 M') (fun k i M' hi hI => by
      obtain ⟨M3, u1, u2⟩ := k9_untold (sl := sl) (sx := sx) (d := 795) (set := nI i) (jF_fr rfl hI hF1) (jL_fr rfl hI (jL_fr rfl f1 hL)) (br_fr rfl hI (br_fr rfl f1 hB))
      rw [dyM_kY hI, dyM_kY f1] at u1
      refine ⟨M3, u2, ?_⟩
      rw [b_X9_deaf_26, hI.1 48 0 rfl, hF1.2.2.1, p1, if_neg (nI_ge hi (by omega)), u1, q_bi_s, nI_1]
      by_cases c : ff (eT (dyM M n (nI i)) R) z 0 = -2
      · left
        refine ⟨decide_eq_true c, ?_⟩
        rw [if_pos c]
      · right
        refine ⟨decide_eq_false c, fr_tr hI u2, ?_⟩
        rw [if_neg c]) (fun k M' hI => by
      rw [b_X9_deaf_26, hI.1 48 0 rfl, hF1.2.2.1, p1, if_pos (Int32.le_refl _)]) (2 ^ n) 0 q_n1 M1 (by omega) (q_n1b (by omega)) fr_rf
  refine ⟨ff (eD2 M n z R) (2 ^ n) 0, M1, M2, ?_, ?_, ja_kY d2 (ja_kY f1 hJ)⟩
  · rw [e_X8_deaf, b_X8_deaf_0, k_shelfY hs, q_br_s, qS_rc hq, br_49 hB, q_bi_s, if_neg n10, hF.2.1, p1]
    exact c1
  · rw [e_X9_deaf, b_X9_deaf_0, k9_isShelfY hs, q_bi_s, if_neg n10, br_207 (br_fr rfl f1 hB), q_bi_s, if_pos rfl]
    exact d1
end BYTES
