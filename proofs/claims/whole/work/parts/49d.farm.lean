/-! PAIRS: undo, redo, feed, farm, farms (wip/whole/f) -/
theorem ch_va {n : Nat} {sl wa be num wh old new : Int32} (h : CH n sl wa be num wh old new) : ∃ w f, VA n w f ∧ sl = nI (sn w f) ∧ num = nI f ∧ wh = nI w ∧ wa = old ∧ be = new ∧ rg old (mx w) ∧ rg new (mx w) := by
  obtain ⟨h1, h2, w, h3, h4, h5, h6, h7⟩ := h
  rcases h7 with ⟨a1, f, a2, a3, a4⟩ | ⟨a1, a2, a3⟩
  · exact ⟨w, f, ⟨h3, Or.inl ⟨a1, a2⟩⟩, by rw [a4, sn, if_pos a1], a3, h4, h1, h2, h5, h6⟩
  · exact ⟨w, 0, ⟨h3, Or.inr ⟨a1, rfl⟩⟩, by rw [a3, sn, if_neg (by omega)], a2, h4, h1, h2, h5, h6⟩
section FARM
variable {sl : Nat} {sx : Nat → Int32} {d n w f : Nat} {M : QM} {x y z v : Int32}
theorem k_isKept {i : Nat} (h : i < 40) : qK sl sx (d + 1) 3 [.int (nI i)] M = some (some (.int 1), M) := by
  rw [e_X0_isKept, b_X0_isKept_0, if_neg (nI_pos (by omega)), if_neg (show ¬ (40 : Int32) ≤ nI i by rw [Int32.le_iff_toInt_le, nI_toInt (by omega), qv_40]; omega)]
theorem k_slotAt {i : Nat} (h : i < 40) : qK sl sx (d + 2) 4 [.ref 28, .int (nI i)] M = some (some (.int (M.1 29 i)), M) := by
  rw [e_X0_slotAt, b_X0_slotAt_0, k_isKept h, q_bi_s, if_neg n10, if_neg (nI_in h (by decide)), nI_clamp (by omega)]
theorem k_wasAt {i : Nat} (h : i < 40) : qK sl sx (d + 2) 5 [.ref 28, .int (nI i)] M = some (some (.int (M.1 30 i)), M) := by
  rw [e_X0_wasAt, b_X0_wasAt_0, k_isKept h, q_bi_s, if_neg n10, if_neg (nI_in h (by decide)), nI_clamp (by omega)]
theorem k_becameAt {i : Nat} (h : i < 40) : qK sl sx (d + 2) 6 [.ref 28, .int (nI i)] M = some (some (.int (M.1 31 i)), M) := by
  rw [e_X0_becameAt, b_X0_becameAt_0, k_isKept h, q_bi_s, if_neg n10, if_neg (nI_in h (by decide)), nI_clamp (by omega)]
theorem p_undo : QPi sl sx JA 114 164 [] := by
  intro M hJ
  obtain ⟨n, b, hF, hT, hL, hC, hD, hK, hS, hH⟩ := id hJ
  obtain ⟨dn, s, c1, c2, c3, c4, c5, c6, c7⟩ := hC
  cases dn with
  | zero =>
    refine ⟨-5, M, M, ?_, ?_, hJ⟩
    · rw [e_X8_undo, b_X8_undo_0, c3, if_neg (by decide)]
    · rw [e_X9_undo, b_X9_undo_0, c4, if_pos (by decide)]
  | succ i =>
    obtain ⟨w, f, va, k1, k2, k3, k4, k5, k6, k7⟩ := ch_va (c7 i (by omega))
    have qi : ¬ (nI i < 0 ∨ 40 ≤ (nI i).toNatClampNeg) := nI_in (by omega) (by decide)
    have cl : qK sl sx 1000 114 [.ref 4] M = some (some (.int (nI i)), (q_up (q_up M.1 28 3 (nI i)) 6 (sn w f) (M.1 58 i), M.2)) := by
      rw [e_X8_undo, b_X8_undo_0, c3, if_pos (show (1 : Int32) ≤ nI (i + 1) by rw [Int32.le_iff_toInt_le, nI_toInt (by omega), qv_1]; omega)]
      simp only [nI_pred, q_up_s, k_slotAt (show i < 40 by omega), q_bi_s, k_wasAt (show i < 40 by omega)]
      rw [show q_up M.1 28 3 (nI i) 29 i = M.1 29 i from q_up_a _ _ _ _ (by decide), show q_up M.1 28 3 (nI i) 30 i = M.1 30 i from q_up_a _ _ _ _ (by decide), k1, k4, k_writeV hF.1 va, q_bv_s]
      dsimp only
      rw [show q_up (q_up M.1 28 3 (nI i)) 6 (sn w f) (M.1 58 i) 28 3 = nI i by rw [q_up_a _ _ _ _ (by decide), q_up_s]]
    obtain ⟨M1, e1⟩ : ∃ M1, M1 = ((q_up (q_up M.1 28 3 (nI i)) 6 (sn w f) (M.1 58 i), M.2) : QM) := ⟨_, rfl⟩
    rw [← e1] at cl
    have f1 : Fr [28, 6] M M1 := by rw [e1]; exact fr_up rfl (fr_up rfl fr_rf)
    have e48 : M1.1 48 20 = nI (i + 1) := (f1.1 48 20 rfl).trans c4
    have rf : qK sl sx 1000 164 [.ref 48] M1 = some (some (.int (nI i)), wr (q_up M1.1 48 20 (nI i), M1.2) w f (M.1 58 i)) := by
      rw [e_X9_undo, b_X9_undo_0, e48, if_neg (nI_ne0 (by omega) (by omega))]
      simp only [nI_pred, q_up_s]
      rw [if_neg qi, if_neg qi, if_neg qi, nI_clamp (by omega), f1.1 56 i rfl, f1.1 57 i rfl, f1.1 58 i rfl, k2, k3, k9_write hF.1 va, q_bv_s, wr_a _ _ _ _ (by omega) (by omega) va.1]
      dsimp only
      rw [q_up_s]
    have f1' : Fr [28, 6, 4820] M (q_up M1.1 48 20 (nI i), M1.2) := fr_up rfl (fr_mo rfl f1)
    have ff : Fr [28, 6, 4820, 49, 50, 51, 52, 53, 4801, 4802, 4803] M (wr (q_up M1.1 48 20 (nI i), M1.2) w f (M.1 58 i)) := fr_t2 rfl rfl f1' (wr_fr _ w f _ va.1)
    refine ⟨nI i, M1, _, cl, rf, n, b, ?_, jT_fr rfl ff hT, jL_fr rfl ff hL, ?_, jD_fr rfl ff hD, jK_fr rfl ff hK, jS_fr rfl ff hS, jH_fr rfl ff hH⟩
    · refine jF_both hF va k6 (M1 := (q_up M1.1 48 20 (nI i), M1.2)) (fr_mo rfl f1') (fun j => ?_) fr_rf
      show q_up M1.1 48 20 (nI i) 6 j = _
      rw [q_up_a _ _ _ _ (by decide), e1]
      show q_up (q_up M.1 28 3 (nI i)) 6 (sn w f) (M.1 58 i) 6 j = _
      by_cases q : j = sn w f
      · rw [if_pos q, q, q_up_s]
      · rw [if_neg q, q_up_k _ _ _ _ q, q_up_a _ _ _ _ (by decide)]
    · refine ⟨i, s, by omega, c2, ?_, ?_, ?_, (ff.1 48 21 rfl).trans c6, fun j hj => ?_⟩
      · rw [wr_a _ _ _ _ (by omega) (by omega) va.1, e1]
        show q_up (q_up (q_up M.1 28 3 (nI i)) 6 (sn w f) (M.1 58 i)) 48 20 (nI i) 28 3 = _
        simp (disch := omega) only [q_up_s, q_up_a, q_up_k, q_uc_a, q_uc_s]
      · rw [wr_a _ _ _ _ (by omega) (by omega) va.1]
        exact q_up1 _ _ _ _ _
      · rw [wr_a _ _ _ _ (by omega) (by omega) va.1, e1]
        show q_up (q_up (q_up M.1 28 3 (nI i)) 6 (sn w f) (M.1 58 i)) 48 20 (nI i) 28 4 = _
        simp (disch := omega) only [q_up_s, q_up_a, q_up_k, q_uc_a, q_uc_s]
        exact c5
      · rw [ff.1 29 j rfl, ff.1 30 j rfl, ff.1 31 j rfl, ff.1 56 j rfl, ff.1 57 j rfl, ff.1 58 j rfl, ff.1 59 j rfl]
        exact c7 j hj
theorem p_redo : QPi sl sx JA 115 165 [] := by
  intro M hJ
  obtain ⟨n, b, hF, hT, hL, hC, hD, hK, hS, hH⟩ := id hJ
  obtain ⟨i, s, c1, c2, c3, c4, c5, c6, c7⟩ := hC
  by_cases h : i < s
  · obtain ⟨w, f, va, k1, k2, k3, k4, k5, k6, k7⟩ := ch_va (c7 i h)
    have qi : ¬ (nI i < 0 ∨ 40 ≤ (nI i).toNatClampNeg) := nI_in (by omega) (by decide)
    have cl : qK sl sx 1000 115 [.ref 4] M = some (some (.int (nI (s - (i + 1)))), (q_up (q_up M.1 6 (sn w f) (M.1 59 i)) 28 3 (nI (i + 1)), M.2)) := by
      rw [e_X8_redo, b_X8_redo_0, c3, c5, if_pos (nI_lt h (by omega)), k_slotAt (by omega), q_bi_s, c3, k_becameAt (by omega), q_bi_s, k1, k5, k_writeV hF.1 va, q_bv_s]
      dsimp only
      rw [show q_up M.1 6 (sn w f) (M.1 59 i) 28 3 = nI i by rw [q_up_a _ _ _ _ (by decide), c3], show q_up M.1 6 (sn w f) (M.1 59 i) 28 4 = nI s by rw [q_up_a _ _ _ _ (by decide), c5], nI_1, q_up_s, pk_sub (by omega)]
    obtain ⟨M1, e1⟩ : ∃ M1, M1 = ((q_up (q_up M.1 6 (sn w f) (M.1 59 i)) 28 3 (nI (i + 1)), M.2) : QM) := ⟨_, rfl⟩
    rw [← e1] at cl
    have f1 : Fr [28, 6] M M1 := by rw [e1]; exact fr_up rfl (fr_up rfl fr_rf)
    have e20 : M1.1 48 20 = nI i := (f1.1 48 20 rfl).trans c4
    have e21 : M1.1 48 21 = nI s := (f1.1 48 21 rfl).trans c6
    have rf : qK sl sx 1000 165 [.ref 48] M1 = some (some (.int (nI (s - (i + 1)))), (q_up (wr M1 w f (M.1 59 i)).1 48 20 (nI (i + 1)), (wr M1 w f (M.1 59 i)).2)) := by
      rw [e_X9_redo, b_X9_redo_0, e20, e21, if_neg (fun q => absurd ((nI_eq (by omega) (by omega)).mp q) (by omega)), if_neg qi, if_neg qi, if_neg qi, nI_clamp (by omega), f1.1 56 i rfl, f1.1 57 i rfl, f1.1 59 i rfl, k2, k3, k9_write hF.1 va, q_bv_s, wr_a _ _ _ _ (by omega) (by omega) va.1, wr_a _ _ _ _ (by omega) (by omega) va.1, e20, e21, nI_1, q_up_s, pk_sub (by omega)]
    have f2 : Fr [4820] (wr M1 w f (M.1 59 i)) (q_up (wr M1 w f (M.1 59 i)).1 48 20 (nI (i + 1)), (wr M1 w f (M.1 59 i)).2) := fr_up rfl fr_rf
    have ff : Fr [28, 6, 4820, 49, 50, 51, 52, 53, 4801, 4802, 4803] M (q_up (wr M1 w f (M.1 59 i)).1 48 20 (nI (i + 1)), (wr M1 w f (M.1 59 i)).2) := fr_t2 rfl rfl (fr_t2 (l := [28, 6, 49, 50, 51, 52, 53, 4801, 4802, 4803]) rfl rfl f1 (wr_fr _ w f _ va.1)) f2
    refine ⟨nI (s - (i + 1)), M1, _, cl, rf, n, b, ?_, jT_fr rfl ff hT, jL_fr rfl ff hL, ?_, jD_fr rfl ff hD, jK_fr rfl ff hK, jS_fr rfl ff hS, jH_fr rfl ff hH⟩
    · refine jF_both hF va k7 (M1 := M1) (fr_mo rfl f1) (fun j => ?_) (fr_mo rfl f2)
      rw [e1]
      show q_up (q_up M.1 6 (sn w f) (M.1 59 i)) 28 3 (nI (i + 1)) 6 j = _
      rw [q_up_a _ _ _ _ (by decide)]
      by_cases q : j = sn w f
      · rw [if_pos q, q, q_up_s]
      · rw [if_neg q, q_up_k _ _ _ _ q]
    · refine ⟨i + 1, s, by omega, c2, ?_, ?_, ?_, (ff.1 48 21 rfl).trans c6, fun j hj => ?_⟩
      · rw [f2.1 28 3 rfl, wr_a _ _ _ _ (by omega) (by omega) va.1, e1]
        exact q_up1 _ _ _ _ _
      · exact q_up1 _ _ _ _ _
      · rw [f2.1 28 4 rfl, wr_a _ _ _ _ (by omega) (by omega) va.1, e1]
        show q_up (q_up M.1 6 (sn w f) (M.1 59 i)) 28 3 (nI (i + 1)) 28 4 = _
        simp (disch := omega) only [q_up_s, q_up_a, q_up_k, q_uc_a, q_uc_s]
        exact c5
      · rw [ff.1 29 j rfl, ff.1 30 j rfl, ff.1 31 j rfl, ff.1 56 j rfl, ff.1 57 j rfl, ff.1 58 j rfl, ff.1 59 j rfl]
        exact c7 j hj
  · have e : i = s := by omega
    subst e
    refine ⟨-5, M, M, ?_, ?_, hJ⟩
    · rw [e_X8_redo, b_X8_redo_0, c3, c5, if_neg (nI_nlt (Nat.le_refl _) (by omega))]
    · rw [e_X9_redo, b_X9_redo_0, c4, c6, if_pos rfl]
theorem p_feed (x : Int32) : QPi sl sx JA 86 167 [.int x] := by
  intro M hJ
  obtain ⟨n, b, hF, hT, hL, hC, hD, hK, hS, hH⟩ := id hJ
  obtain ⟨s, t1, t2, t3, t4⟩ := hT
  have hm : ∀ M' : QM, qK sl sx 999 126 [.int x, .int 255] M' = some (some (.int (if rg x 255 then 1 else 0)), M') := fun M' => k_within
  have hm9 : ∀ M' : QM, qK sl sx 999 151 [.ref 48, .int x, .int 0, .int 255] M' = some (some (.int (if rg x 255 then 1 else 0)), M') := fun M' => k9_isIn
  by_cases r : rg x 255
  · by_cases q : s < 120
    · have q1 : ¬ (nI s < 0 ∨ 120 ≤ (nI s).toNatClampNeg) := nI_in q (by decide)
      have f1 : Fr [15, 1401] M (q_up (q_up M.1 15 s x) 14 1 (nI (s + 1)), M.2) := fr_up rfl (fr_up rfl fr_rf)
      have cl : qK sl sx 1000 86 [.ref 4, .int x] M = some (some (.int (nI (s + 1))), (q_up (q_up M.1 15 s x) 14 1 (nI (s + 1)), M.2)) := by
        rw [e_X8_feed, b_X8_feed_0, hm, if_pos r, q_bi_s, if_neg n10, e_X4_add, b_X4_add_0, t2, if_pos (show nI s < 120 by rw [Int32.lt_iff_toInt_lt, nI_toInt (by omega), qv_120]; omega), if_neg q1, q_bi_s, if_neg n10, nI_clamp (by omega), nI_1]
        dsimp only
        rw [q_up_s]
      obtain ⟨M1, e1⟩ : ∃ M1, M1 = ((q_up (q_up M.1 15 s x) 14 1 (nI (s + 1)), M.2) : QM) := ⟨_, rfl⟩
      rw [← e1] at cl f1
      have f2 : Fr [54, 4804] M1 (q_up (q_up M1.1 54 s x) 48 4 (nI (s + 1)), M1.2) := fr_up rfl (fr_up rfl fr_rf)
      have rf : qK sl sx 1000 167 [.ref 48, .int x] M1 = some (some (.int (nI (s + 1))), (q_up (q_up M1.1 54 s x) 48 4 (nI (s + 1)), M1.2)) := by
        rw [e_X9_feed, b_X9_feed_0, hm9, if_pos r, q_bi_s, if_neg n10, f1.1 48 4 rfl, t3, if_neg (show ¬ nI s = 120 by rw [q_eqI, nI_toInt (by omega), qv_120]; omega), if_neg q1, nI_clamp (by omega), nI_1, q_up_s]
      have ff := fr_t2 (l := [15, 1401, 54, 4804]) rfl rfl f1 f2
      refine ⟨nI (s + 1), M1, _, cl, rf, n, b, jF_fr rfl ff hF, ?_, jL_fr rfl ff hL, jC_fr rfl ff hC, jD_fr rfl ff hD, jK_fr rfl ff hK, jS_fr rfl ff hS, jH_fr rfl ff hH⟩
      refine ⟨s + 1, by omega, ?_, q_up1 _ _ _ _ _, fun i hi => ?_⟩
      · rw [f2.1 14 1 rfl, e1]
        exact q_up1 _ _ _ _ _
      · rw [f2.1 15 i rfl]
        show _ = q_up (q_up M1.1 54 s x) 48 4 (nI (s + 1)) 54 i
        rw [q_up_a _ _ _ _ (by decide)]
        by_cases w : i = s
        · rw [w, q_up_s, e1]
          show q_up (q_up M.1 15 s x) 14 1 (nI (s + 1)) 15 s = x
          rw [q_up_a _ _ _ _ (by decide), q_up_s]
        · rw [q_up_k _ _ _ _ w, f1.1 54 i rfl, e1]
          show q_up (q_up M.1 15 s x) 14 1 (nI (s + 1)) 15 i = _
          rw [q_up_a _ _ _ _ (by decide), q_up_k _ _ _ _ w]
          exact t4 i (by omega)
    · have e : s = 120 := by omega
      subst e
      refine ⟨-3, M, M, ?_, ?_, hJ⟩
      · rw [e_X8_feed, b_X8_feed_0, hm, if_pos r, q_bi_s, if_neg n10, e_X4_add, b_X4_add_0, t2, if_neg (by decide), q_bi_s, if_pos rfl]
      · rw [e_X9_feed, b_X9_feed_0, hm9, if_pos r, q_bi_s, if_neg n10, t3, if_pos (by decide)]
  · refine ⟨-1, M, M, ?_, ?_, hJ⟩
    · rw [e_X8_feed, b_X8_feed_0, hm, if_neg r, q_bi_s, if_pos rfl]
    · rw [e_X9_feed, b_X9_feed_0, hm9, if_neg r, q_bi_s, if_pos rfl]
/-! farms come -/
def ad (N : Nat → Int32) (n : Nat) (f k a : Int32) : Nat → Int32 := fun i => if i = 5 * n + 3 then 1 else if i = 5 * n + 2 then a else if i = 5 * n + 1 then k else if i = 5 * n then f else N i
def RF (n : Nat) (N : Nat → Int32) (M : QM) : Prop := M.1 48 0 = nI n ∧ ∀ i, i < 5 * n → RN M i = N i
def FG (n : Nat) (N : Nat → Int32) : Prop := n ≤ 10 ∧ (∀ j, j < n → Rg N j) ∧ (∀ j, n ≤ j → j < 10 → N (5 * j + 4) = 0)
theorem jf_fg (j : JF n M) : FG n (M.1 6) ∧ RF n (M.1 6) M := ⟨⟨j.1, j.2.2.2.1, j.2.2.2.2.2.1⟩, j.2.2.1, fun i hi => (j.2.2.2.2.1 i hi).symm⟩
theorem jf_of {n' : Nat} {N : Nat → Int32} {M' : QM} (j : JF n M) (h1 : FG n' N) (h2 : RF n' N M') (h3 : M'.1 5 1 = nI n') (h4 : M'.1 6 = N) (h5 : N 50 = M.1 6 50 ∧ N 51 = M.1 6 51 ∧ N 52 = M.1 6 52) (h6 : M'.1 48 1 = M.1 48 1 ∧ M'.1 48 2 = M.1 48 2 ∧ M'.1 48 3 = M.1 48 3) : JF n' M' := by
  obtain ⟨j1, j2, j3, j4, j5, j6, j7, j8, j9, j10, j11, j12⟩ := j
  refine ⟨h1.1, h3, h2.1, by rw [h4]; exact h1.2.1, fun i hi => by rw [h4]; exact (h2.2 i hi).symm, by rw [h4]; exact h1.2.2, ?_, ?_, ?_, ?_, ?_, ?_⟩
  · rw [h4, h5.1, h6.1]; exact j7
  · rw [h4, h5.2.1, h6.2.1]; exact j8
  · rw [h4, h5.2.2, h6.2.2]; exact j9
  · rw [h4, h5.1]; exact j10
  · rw [h4, h5.2.1]; exact j11
  · rw [h4, h5.2.2]; exact j12
theorem fg_ad {N : Nat → Int32} (h : FG n N) (hn : n < 10) (h1 : rg x 9) (h2 : rg y 5) (h3 : rg z 99) : FG (n + 1) (ad N n x y z) := by
  obtain ⟨g1, g2, g3⟩ := h
  refine ⟨by omega, fun j hj => ?_, fun j h1 h2 => ?_⟩
  · by_cases q : j = n
    · subst q
      have a0 : ad N j x y z (5 * j) = x := by unfold ad; rw [if_neg (by omega), if_neg (by omega), if_neg (by omega), if_pos rfl]
      have a1 : ad N j x y z (5 * j + 1) = y := by unfold ad; rw [if_neg (by omega), if_neg (by omega), if_pos rfl]
      have a2 : ad N j x y z (5 * j + 2) = z := by unfold ad; rw [if_neg (by omega), if_pos rfl]
      have a3 : ad N j x y z (5 * j + 3) = 1 := by unfold ad; rw [if_pos rfl]
      have a4 : ad N j x y z (5 * j + 4) = 0 := by unfold ad; rw [if_neg (by omega), if_neg (by omega), if_neg (by omega), if_neg (by omega)]; exact g3 j (Nat.le_refl _) hn
      unfold Rg
      rw [a0, a1, a2, a3, a4]
      exact ⟨h1.1, h1.2, h2.1, h2.2, h3.1, h3.2, by decide, by decide, by decide, by decide⟩
    · have := g2 j (by omega)
      have e : ∀ c, c < 5 → ad N n x y z (5 * j + c) = N (5 * j + c) := by
        intro c hc
        unfold ad
        rw [if_neg (by omega), if_neg (by omega), if_neg (by omega), if_neg (by omega)]
      have e0 : ad N n x y z (5 * j) = N (5 * j) := e 0 (by decide)
      unfold Rg at this ⊢
      rw [e0, e 1 (by decide), e 2 (by decide), e 3 (by decide), e 4 (by decide)]
      exact this
  · unfold ad
    rw [if_neg (by omega), if_neg (by omega), if_neg (by omega), if_neg (by omega)]
    exact g3 j (by omega) h2
theorem k_slotC {m c : Nat} (h : M.1 5 1 = nI m) (hm : m ≤ 10) (hf : f < m) (hc : c < 5) : qK sl sx (d + 2) 17 [.ref 5, .int (nI f), .int (nI c)] M = some (some (.int (nI (5 * f + c))), M) := by
  rw [k_slotOf (Or.inl rfl), h, nI_toInt (show c < 2 ^ 31 by omega), nI_toInt (show f < 2 ^ 31 by omega), nI_toInt (show m < 2 ^ 31 by omega), if_neg (by omega), if_pos (by omega)]
  have e5 : (5 : Int32) = nI 5 := by decide
  rw [e5, pk_mul, nI_add, Nat.mul_comm]
theorem k_writeC {i : Nat} (h : i < 53) : qK sl sx (d + 1) 19 [.ref 5, .int (nI i), .int v] M = some (none, (q_up M.1 6 i v, M.2)) := by
  rw [k_write (Or.inl rfl), nI_toInt (by omega), if_pos ⟨by omega, by omega⟩, Int.toNat_natCast]
theorem k_addF (h : M.1 5 1 = nI n) (hn : n < 10) : ∃ M', qK sl sx (d + 3) 21 [.ref 5, .int x, .int y, .int z] M = some (some (.int (nI n)), M') ∧ Fr [5, 6] M M' ∧ M'.1 5 1 = nI (n + 1) ∧ M'.1 6 = ad (M.1 6) n x y z := by
  have c0 : (0 : Int32) = nI 0 := by decide
  have c1 : (1 : Int32) = nI 1 := by decide
  have c2 : (2 : Int32) = nI 2 := by decide
  have c3 : (3 : Int32) = nI 3 := by decide
  have s : ∀ (g : Nat → Nat → Int32) (h2 : Nat → Nat → Int64) (c : Nat), c < 5 → g 5 1 = nI (n + 1) → qK sl sx (d + 2) 17 [.ref 5, .int (nI n), .int (nI c)] (g, h2) = some (some (.int (nI (5 * n + c))), (g, h2)) := fun g h2 c hc hg => k_slotC (M := (g, h2)) (m := n + 1) hg (by omega) (by omega) hc
  rw [e_X2_add, b_X2_add_0, h, if_pos (show nI n < 10 by rw [Int32.lt_iff_toInt_lt, nI_toInt (by omega), qv_10]; omega), nI_1]
  simp only [qF_O (Or.inl rfl), qF_rc (Or.inl rfl)]
  have s0 := s (q_up M.1 5 1 (nI (n + 1))) M.2 0 (by decide) (q_up_s _ _ _ _)
  have s1 := s (q_up (q_up M.1 5 1 (nI (n + 1))) 6 (5 * n + 0) x) M.2 1 (by decide) (by rw [q_up_a _ _ _ _ (by decide), q_up_s])
  have s2 := s (q_up (q_up (q_up M.1 5 1 (nI (n + 1))) 6 (5 * n + 0) x) 6 (5 * n + 1) y) M.2 2 (by decide) (by rw [q_up_a _ _ _ _ (by decide), q_up_a _ _ _ _ (by decide), q_up_s])
  have s3 := s (q_up (q_up (q_up (q_up M.1 5 1 (nI (n + 1))) 6 (5 * n + 0) x) 6 (5 * n + 1) y) 6 (5 * n + 2) z) M.2 3 (by decide) (by rw [q_up_a _ _ _ _ (by decide), q_up_a _ _ _ _ (by decide), q_up_a _ _ _ _ (by decide), q_up_s])
  rw [← c0] at s0
  rw [← c1] at s1
  rw [← c2] at s2
  rw [← c3] at s3
  rw [s0, q_bi_s, k_writeC (by omega), q_bv_s]
  dsimp only
  rw [s1, q_bi_s, k_writeC (by omega), q_bv_s]
  dsimp only
  rw [s2, q_bi_s, k_writeC (by omega), q_bv_s]
  dsimp only
  rw [s3, q_bi_s, k_writeC (by omega), q_bv_s]
  refine ⟨_, rfl, fr_up rfl (fr_up rfl (fr_up rfl (fr_up rfl (fr_up rfl fr_rf)))), ?_, ?_⟩
  · dsimp only
    simp (disch := omega) only [q_up_s, q_up_a, q_up_k, q_uc_a, q_uc_s]
  · funext i
    unfold ad
    dsimp only
    by_cases i3 : i = 5 * n + 3
    · rw [if_pos i3, i3, q_up_s]
    · rw [if_neg i3, q_up_k _ _ _ _ i3]
      by_cases i2 : i = 5 * n + 2
      · rw [if_pos i2, i2, q_up_s]
      · rw [if_neg i2, q_up_k _ _ _ _ i2]
        by_cases i1 : i = 5 * n + 1
        · rw [if_pos i1, i1, q_up_s]
        · rw [if_neg i1, q_up_k _ _ _ _ i1]
          by_cases i0 : i = 5 * n
          · rw [if_pos i0, i0]
            exact q_up_s _ _ _ _
          · rw [if_neg i0, q_up_k _ _ _ _ (show i ≠ 5 * n + 0 from i0), q_up_a _ _ _ _ (by decide)]
theorem k_addFull (h : M.1 5 1 = nI 10) : qK sl sx (d + 3) 21 [.ref 5, .int x, .int y, .int z] M = some (some (.int (-3)), M) := by
  rw [e_X2_add, b_X2_add_0, h, if_neg (by decide)]
  exact qF_O (Or.inl rfl) _
theorem k9_addsR {N : Nat → Int32} (h : RF n N M) (hn : n < 10) (hz : N (5 * n + 4) = 0) : ∃ M', qK sl sx (d + 1) 156 [.ref 48, .int x, .int y, .int z] M = some (some (.int (nI n)), M') ∧ Fr [49, 50, 51, 52, 53, 4800] M M' ∧ RF (n + 1) (ad N n x y z) M' := by
  obtain ⟨h1, h2⟩ := h
  have q1 : ¬ (nI n < 0 ∨ 10 ≤ (nI n).toNatClampNeg) := nI_in hn (by decide)
  rw [e_X9_adds, b_X9_adds_0, h1, if_neg q1, if_neg q1, if_neg q1, if_neg q1, if_neg q1, nI_clamp (by omega), nI_1]
  refine ⟨_, rfl, fr_up rfl (fr_up rfl (fr_up rfl (fr_up rfl (fr_up rfl (fr_up rfl fr_rf))))), q_up1 _ _ _ _ _, fun i hi => ?_⟩
  have hi5 : i = 5 * (i / 5) + i % 5 := by omega
  have hc : i % 5 < 5 := by omega
  generalize i / 5 = j at *
  generalize i % 5 = c at *
  subst hi5
  have hc' : c = 0 ∨ c = 1 ∨ c = 2 ∨ c = 3 ∨ c = 4 := by omega
  by_cases q : j = n
  · subst q
    unfold ad
    rw [rn_w hc]
    rcases hc' with rfl | rfl | rfl | rfl | rfl
    · rw [if_neg (by omega), if_neg (by omega), if_neg (by omega), if_pos (by omega)]
      dsimp only
      simp (disch := omega) only [q_up_s, q_up_a, q_up_k, q_uc_a, q_uc_s]
    · rw [if_neg (by omega), if_neg (by omega), if_pos rfl]
      dsimp only
      simp (disch := omega) only [q_up_s, q_up_a, q_up_k, q_uc_a, q_uc_s]
    · rw [if_neg (by omega), if_pos rfl]
      dsimp only
      simp (disch := omega) only [q_up_s, q_up_a, q_up_k, q_uc_a, q_uc_s]
    · rw [if_pos rfl]
      dsimp only
      simp (disch := omega) only [q_up_s, q_up_a, q_up_k, q_uc_a, q_uc_s]
    · rw [if_neg (by omega), if_neg (by omega), if_neg (by omega), if_neg (by omega), hz]
      dsimp only
      simp (disch := omega) only [q_up_s, q_up_a, q_up_k, q_uc_a, q_uc_s]
  · have e : ad N n x y z (5 * j + c) = N (5 * j + c) := by
      unfold ad
      rw [if_neg (by omega), if_neg (by omega), if_neg (by omega), if_neg (by omega)]
    rw [e, ← h2 _ (by omega), rn_w hc, rn_w hc]
    rcases hc' with rfl | rfl | rfl | rfl | rfl <;> (dsimp only; simp (disch := omega) only [q_up_s, q_up_a, q_up_k, q_uc_a, q_uc_s])
theorem ad_50 (N : Nat → Int32) (hn : n < 10) (i : Nat) (hi : 50 ≤ i) : ad N n x y z i = N i := by
  unfold ad
  rw [if_neg (by omega), if_neg (by omega), if_neg (by omega), if_neg (by omega)]
theorem p_farm (x y : Int32) : QPi sl sx JA 82 155 [.int x, .int y] := by
  intro M hJ
  obtain ⟨n, b, hF, hT, hL, hC, hD, hK, hS, hH⟩ := id hJ
  have hm : ∀ M' : QM, qK sl sx 999 126 [.int x, .int 9] M' = some (some (.int (if rg x 9 then 1 else 0)), M') := fun M' => k_within
  have hm9 : ∀ M' : QM, qK sl sx 999 151 [.ref 48, .int x, .int 0, .int 9] M' = some (some (.int (if rg x 9 then 1 else 0)), M') := fun M' => k9_isIn
  have hk : ∀ M' : QM, qK sl sx 999 126 [.int y, .int 5] M' = some (some (.int (if rg y 5 then 1 else 0)), M') := fun M' => k_within
  have hk9 : ∀ M' : QM, qK sl sx 999 151 [.ref 48, .int y, .int 0, .int 5] M' = some (some (.int (if rg y 5 then 1 else 0)), M') := fun M' => k9_isIn
  by_cases r1 : rg x 9
  · by_cases r2 : rg y 5
    · by_cases hn : n < 10
      · obtain ⟨g1, g2⟩ := jf_fg hF
        obtain ⟨M1, a1, a2, a3, a4⟩ := k_addF (sl := sl) (sx := sx) (d := 996) (x := x) (y := y) (z := 0) hF.2.1 hn
        have g2' : RF n (M.1 6) M1 := by
          refine ⟨(a2.1 48 0 rfl).trans g2.1, fun i hi => ?_⟩
          rw [← g2.2 i hi]
          unfold RN
          rw [a2.1 49 _ rfl, a2.1 50 _ rfl, a2.1 51 _ rfl, a2.1 52 _ rfl, a2.1 53 _ rfl]
        obtain ⟨M2, b1, b2, b3⟩ := k9_addsR (sl := sl) (sx := sx) (d := 998) (x := x) (y := y) (z := 0) g2' hn (g1.2.2 n (Nat.le_refl _) hn)
        have ff := fr_t2 (l := [5, 6, 49, 50, 51, 52, 53, 4800]) rfl rfl a2 b2
        refine ⟨nI n, M1, M2, ?_, ?_, n + 1, b, ?_, jT_fr rfl ff hT, jL_fr rfl ff hL, jC_mo (Nat.le_succ n) (jC_fr rfl ff hC), jD_fr rfl ff hD, jK_fr rfl ff hK, jS_fr rfl ff hS, jH_fr rfl ff hH⟩
        · rw [e_X8_farm, b_X8_farm_0, hm, if_pos r1, q_bi_s, if_neg n10, hk, if_pos r2, q_bi_s, if_neg n10, a1, q_bi_s]
        · rw [e_X9_farm, b_X9_farm_0, hm9, if_pos r1, q_bi_s, if_neg n10, hk9, if_pos r2, q_bi_s, if_neg n10, g2'.1, if_neg (show ¬ nI n = 10 by rw [q_eqI, nI_toInt (by omega), qv_10]; omega), b1, q_bi_s]
        · exact jf_of hF (fg_ad g1 hn r1 r2 (by decide)) b3 ((b2.1 5 1 rfl).trans a3) ((funext fun k => b2.1 6 k rfl : M2.1 6 = M1.1 6).trans a4) ⟨ad_50 _ hn _ (by decide), ad_50 _ hn _ (by decide), ad_50 _ hn _ (by decide)⟩ ⟨ff.1 48 1 rfl, ff.1 48 2 rfl, ff.1 48 3 rfl⟩
      · have e : n = 10 := by have := hF.1; omega
        subst e
        refine ⟨-3, M, M, ?_, ?_, hJ⟩
        · rw [e_X8_farm, b_X8_farm_0, hm, if_pos r1, q_bi_s, if_neg n10, hk, if_pos r2, q_bi_s, if_neg n10, k_addFull hF.2.1, q_bi_s]
        · rw [e_X9_farm, b_X9_farm_0, hm9, if_pos r1, q_bi_s, if_neg n10, hk9, if_pos r2, q_bi_s, if_neg n10, hF.2.2.1, if_pos (by decide)]
    · refine ⟨-1, M, M, ?_, ?_, hJ⟩
      · rw [e_X8_farm, b_X8_farm_0, hm, if_pos r1, q_bi_s, if_neg n10, hk, if_neg r2, q_bi_s, if_pos rfl]
      · rw [e_X9_farm, b_X9_farm_0, hm9, if_pos r1, q_bi_s, if_neg n10, hk9, if_neg r2, q_bi_s, if_pos rfl]
  · refine ⟨-1, M, M, ?_, ?_, hJ⟩
    · rw [e_X8_farm, b_X8_farm_0, hm, if_neg r1, q_bi_s, if_pos rfl]
    · rw [e_X9_farm, b_X9_farm_0, hm9, if_neg r1, q_bi_s, if_pos rfl]
end FARM
