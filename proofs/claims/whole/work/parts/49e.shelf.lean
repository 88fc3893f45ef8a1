/-! PAIRS: body, trace, keep, row, put, element (wip/whole/f) -/
theorem qs_is {s : Nat} (h : s < 6) : qIsS (36 + 2 * s) := by
  unfold qIsS
  omega
theorem sh_congr {b : Nat} {c c' : Nat → Int32} {cl cl' : Nat → Int64} {hd so sz sh : Int32} {rc rc' : Nat → Int64} (e1 : ∀ k, c' k = c k) (e2 : ∀ i, i < 60 → cl' i = cl i) (e3 : ∀ i, i < 60 → rc' i = rc i) (h : SH b c cl hd so sz sh rc) : SH b c' cl' hd so sz sh rc' := by
  rcases h with ⟨h1, h2⟩ | ⟨h1, h2, h3, h4⟩ | ⟨h1, o, z, h2, h3, h4, h5, h6, h7, h8⟩
  · exact Or.inl ⟨h1, (e1 0).trans h2⟩
  · exact Or.inr (Or.inl ⟨h1, (e1 0).trans h2, (e1 2).trans h3, h4⟩)
  · exact Or.inr (Or.inr ⟨h1, o, z, h2, h3, h4, (e1 0).trans h5, h6, (e1 1).trans h7, fun i hi => by rw [e2 i hi, e3 i hi]; exact h8 i hi⟩)
theorem jH_at {b s : Nat} {M M' : QM} (j : JH b M) (e : ∀ s', s' < 6 → s' ≠ s → (∀ k, M'.1 (36 + 2 * s') k = M.1 (36 + 2 * s') k) ∧ (∀ i, i < 60 → M'.2 (37 + 2 * s') i = M.2 (37 + 2 * s') i) ∧ M'.1 71 s' = M.1 71 s' ∧ M'.1 72 s' = M.1 72 s' ∧ M'.1 73 s' = M.1 73 s' ∧ M'.1 74 s' = M.1 74 s' ∧ ∀ i, i < 60 → M'.2 75 (60 * s' + i) = M.2 75 (60 * s' + i)) (h : SH b (M'.1 (36 + 2 * s)) (M'.2 (37 + 2 * s)) (M'.1 71 s) (M'.1 72 s) (M'.1 73 s) (M'.1 74 s) (fun i => M'.2 75 (60 * s + i))) : JH b M' := by
  intro s' hs'
  by_cases q : s' = s
  · rw [q]; exact h
  · obtain ⟨e1, e2, e3, e4, e5, e6, e7⟩ := e s' hs' q
    rw [e3, e4, e5, e6]
    exact sh_congr e1 e2 e7 (j s' hs')
theorem in6 {x : Int32} : (0 ≤ x.toInt ∧ x.toInt < 6) ∨ ¬ (0 ≤ x.toInt ∧ x.toInt < 6) := Classical.em _
section SHELF
variable {sl : Nat} {sx : Nat → Int32} {d n s : Nat} {M : QM} {x y z v : Int32}
theorem k_shelfY (h : s < 6) : qK sl sx (d + 1) 128 [.ref 4, .int (nI s)] M = some (some (.ref (36 + 2 * s)), M) := by
  rw [e_X8_shelfAt, b_X8_shelfAt_0]
  have : s = 0 ∨ s = 1 ∨ s = 2 ∨ s = 3 ∨ s = 4 ∨ s = 5 := by omega
  rcases this with rfl | rfl | rfl | rfl | rfl | rfl <;> rfl
theorem k_shelfN (h : ¬ (0 ≤ x.toInt ∧ x.toInt < 6)) : qK sl sx (d + 1) 128 [.ref 4, .int x] M = some (some .null, M) := by
  rw [e_X8_shelfAt, b_X8_shelfAt_0]
  simp only [Int32.lt_iff_toInt_lt, Int32.le_iff_toInt_le, qv_0, qv_6]
  by_cases q : x.toInt < 0
  · rw [if_pos q]
  · rw [if_neg q, if_pos (by omega)]
theorem k9_isShelf : qK sl sx (d + 1) 246 [.ref 48, .int x] M = some (some (.int (if 0 ≤ x.toInt ∧ x.toInt < 6 then 1 else 0)), M) := by
  rw [e_X9_isShelf, b_X9_isShelf_0]
  simp only [Int32.lt_iff_toInt_lt, Int32.le_iff_toInt_le, qv_0, qv_6]
  grind
theorem k9_isShelfY (h : s < 6) : qK sl sx (d + 1) 246 [.ref 48, .int (nI s)] M = some (some (.int 1), M) := by
  rw [k9_isShelf, nI_toInt (by omega), if_pos (by omega)]
theorem k9_isShelfN (h : ¬ (0 ≤ x.toInt ∧ x.toInt < 6)) : qK sl sx (d + 1) 246 [.ref 48, .int x] M = some (some (.int 0), M) := by
  rw [k9_isShelf, if_neg h]
theorem s6 (h : s < 6) : ¬ (nI s < 0 ∨ 6 ≤ (nI s).toNatClampNeg) := nI_in h (by decide)
theorem s6n (h : s < 6) : ¬ (nI s < 0 ∨ 6 ≤ s) := by
  have := s6 h
  rw [nI_clamp (by omega)] at this
  exact this
theorem s6c (h : s < 6) : (nI s).toNatClampNeg = s := nI_clamp (by omega)
theorem p_body (x : Int32) : QPi sl sx JA 116 237 [.int x] := by
  intro M hJ
  obtain ⟨n, b, hF, hT, hL, hC, hD, hK, hS, hH⟩ := id hJ
  have hm : ∀ M' : QM, qK sl sx 999 126 [.int x, .int 7] M' = some (some (.int (if rg x 7 then 1 else 0)), M') := fun M' => k_within
  have hm9 : ∀ M' : QM, qK sl sx 999 151 [.ref 48, .int x, .int 0, .int 7] M' = some (some (.int (if rg x 7 then 1 else 0)), M') := fun M' => k9_isIn
  obtain ⟨s1, s2, s3, s4, r, s5, s6, s7, s8⟩ := id hS
  by_cases h : rg x 7
  · by_cases q : b < 50
    · have q1 : ¬ (nI b < 0 ∨ 50 ≤ (nI b).toNatClampNeg) := nI_in q (by decide)
      have cl : qK sl sx 1000 116 [.ref 4, .int x] M = some (some (.int (nI b)), (q_up (q_up M.1 33 b x) 32 1 (nI (b + 1)), M.2)) := by
        rw [e_X8_body, b_X8_body_0, hm, if_pos h, q_bi_s, if_neg n10, e_X6_add, b_X6_add_0, s2, if_pos (show nI b < 50 by rw [Int32.lt_iff_toInt_lt, nI_toInt (by omega), qv_50]; omega), if_neg q1, nI_clamp (by omega), nI_1, q_up_s, nI_pred, q_bi_s]
      have f1 : Fr [32, 33] M (q_up (q_up M.1 33 b x) 32 1 (nI (b + 1)), M.2) := fr_up rfl (fr_up rfl fr_rf)
      obtain ⟨M1, e1⟩ : ∃ M1, M1 = ((q_up (q_up M.1 33 b x) 32 1 (nI (b + 1)), M.2) : QM) := ⟨_, rfl⟩
      rw [← e1] at cl f1
      have rf : qK sl sx 1000 237 [.ref 48, .int x] M1 = some (some (.int (nI b)), (q_up (q_up M1.1 69 b x) 48 7 (nI (b + 1)), M1.2)) := by
        rw [e_X9_body, b_X9_body_0, hm9, if_pos h, q_bi_s, if_neg n10, f1.1 48 7 rfl, s3, if_neg (show ¬ nI b = 50 by rw [q_eqI, nI_toInt (by omega), qv_50]; omega), if_neg q1, nI_clamp (by omega), nI_1]
      have f2 : Fr [69, 4807] M1 (q_up (q_up M1.1 69 b x) 48 7 (nI (b + 1)), M1.2) := fr_up rfl (fr_up rfl fr_rf)
      have ff := fr_t2 (l := [32, 33, 69, 4807]) rfl rfl f1 f2
      refine ⟨nI b, M1, _, cl, rf, n, b + 1, jF_fr rfl ff hF, jT_fr rfl ff hT, jL_fr rfl ff hL, jC_fr rfl ff hC, jD_fr rfl ff hD, jK_fr rfl ff hK, ?_, jH_mo (Nat.le_succ b) (jH_fr rfl ff hH)⟩
      refine ⟨by omega, ?_, q_up1 _ _ _ _ _, fun i hi => ?_, r, s5, ?_, ?_, fun i h1 h2 => ?_⟩
      · rw [f2.1 32 1 rfl, e1]
        exact q_up1 _ _ _ _ _
      · rw [f2.1 33 i rfl, e1]
        show q_up (q_up M.1 33 b x) 32 1 (nI (b + 1)) 33 i = q_up (q_up (q_up (q_up M.1 33 b x) 32 1 (nI (b + 1))) 69 b x) 48 7 (nI (b + 1)) 69 i ∧ ∃ k, k < 8 ∧ q_up (q_up (q_up (q_up M.1 33 b x) 32 1 (nI (b + 1))) 69 b x) 48 7 (nI (b + 1)) 69 i = nI k
        by_cases w : i = b
        · subst w
          simp (disch := omega) only [q_up_s, q_up_a, q_up_k, q_uc_a, q_uc_s]
          exact ⟨trivial, x.toInt.toNat, by omega, q_ofN h.1⟩
        · simp (disch := omega) only [q_up_s, q_up_a, q_up_k, q_uc_a, q_uc_s]
          exact s4 i (by omega)
      · rw [f2.1 32 3 rfl, e1]
        show q_up (q_up M.1 33 b x) 32 1 (nI (b + 1)) 32 3 = _
        simp (disch := omega) only [q_up_s, q_up_a, q_up_k, q_uc_a, q_uc_s]
        exact s6
      · rw [ff.1 48 6 rfl]; exact s7
      · rw [ff.1 34 i rfl, ff.1 70 i rfl]; exact s8 i h1 h2
    · have e : b = 50 := by omega
      subst e
      refine ⟨-3, M, M, ?_, ?_, hJ⟩
      · rw [e_X8_body, b_X8_body_0, hm, if_pos h, q_bi_s, if_neg n10, e_X6_add, b_X6_add_0, s2, if_neg (by decide), q_bi_s]
      · rw [e_X9_body, b_X9_body_0, hm9, if_pos h, q_bi_s, if_neg n10, s3, if_pos (by decide)]
  · refine ⟨-1, M, M, ?_, ?_, hJ⟩
    · rw [e_X8_body, b_X8_body_0, hm, if_neg h, q_bi_s, if_pos rfl]
    · rw [e_X9_body, b_X9_body_0, hm9, if_neg h, q_bi_s, if_pos rfl]
theorem p_trace (x : Int32) : QPi sl sx JA 118 245 [.int x] := by
  intro M hJ
  obtain ⟨n, b, hF, hT, hL, hC, hD, hK, hS, hH⟩ := id hJ
  obtain ⟨s1, s2, s3, s4, r, s5, s6, s7, s8⟩ := id hS
  by_cases h : 0 ≤ x.toInt ∧ x.toInt < r ∧ x.toInt < 24
  · have ex : x = nI x.toInt.toNat := q_ofN h.1
    have hr : x.toInt.toNat < r := by omega
    have h24 : x.toInt.toNat < 24 := by omega
    generalize x.toInt.toNat = i at *
    subst ex
    have q1 : ¬ nI i < 0 := nI_pos (by omega)
    have q2 : ¬ nI r ≤ nI i := nI_ge hr (by omega)
    have q3 : ¬ (24 : Int32) ≤ nI i := by rw [Int32.le_iff_toInt_le, nI_toInt (by omega), qv_24]; omega
    have q4 : ¬ (nI i < 0 ∨ 24 ≤ (nI i).toNatClampNeg) := nI_in h24 (by decide)
    refine ⟨M.1 70 i, M, M, ?_, ?_, hJ⟩
    · rw [e_X8_trace, b_X8_trace_0, e_X6_ranAt, b_X6_ranAt_0, s6, if_neg q1, if_neg q2, if_neg q3, if_neg q4, q_bi_s, nI_clamp (by omega), s8 i hr h24]
    · rw [e_X9_trace, b_X9_trace_0, s7, if_neg q1, if_neg q3, if_neg q2, if_neg q4, nI_clamp (by omega)]
  · refine ⟨-1, M, M, ?_, ?_, hJ⟩
    · rw [e_X8_trace, b_X8_trace_0, e_X6_ranAt, b_X6_ranAt_0, s6]
      simp only [Int32.lt_iff_toInt_lt, Int32.le_iff_toInt_le, qv_0, qv_24, nI_toInt (show r < 2 ^ 31 by omega)]
      by_cases a1 : x.toInt < 0
      · rw [if_pos a1, q_bi_s]
      · rw [if_neg a1]
        by_cases a2 : (r : Int) ≤ x.toInt
        · rw [if_pos a2, q_bi_s]
        · rw [if_neg a2, if_pos (by omega), q_bi_s]
    · rw [e_X9_trace, b_X9_trace_0, s7]
      simp only [Int32.lt_iff_toInt_lt, Int32.le_iff_toInt_le, qv_0, qv_24, nI_toInt (show r < 2 ^ 31 by omega)]
      by_cases a1 : x.toInt < 0
      · rw [if_pos a1]
      · rw [if_neg a1]
        by_cases a2 : 24 ≤ x.toInt
        · rw [if_pos a2]
        · rw [if_neg a2, if_pos (by omega)]
theorem k_isThere {b : Nat} (hb : b ≤ 50) (h : M.1 32 1 = nI b) : qK sl sx (d + 1) 61 [.ref 32, .int x] M = some (some (.int (if 0 ≤ x.toInt ∧ x.toInt < b then 1 else 0)), M) := by
  rw [e_X6_isThere, b_X6_isThere_0, h]
  simp only [Int32.lt_iff_toInt_lt, Int32.le_iff_toInt_le, qv_0, qv_50, nI_toInt (show b < 2 ^ 31 by omega)]
  grind
theorem p_keep (x y : Int32) : QPi sl sx JA 119 248 [.int x, .int y] := by
  intro M hJ
  obtain ⟨n, b, hF, hT, hL, hC, hD, hK, hS, hH⟩ := id hJ
  obtain ⟨s1, s2, s3, s4, _⟩ := id hS
  have it : ∀ d, qK sl sx (d + 1) 61 [.ref 32, .int y] M = some (some (.int (if 0 ≤ y.toInt ∧ y.toInt < b then 1 else 0)), M) := fun d => k_isThere s1 s2
  have ym : y = -1 ↔ y.toInt = -1 := by rw [q_eqI, qv_m1]
  have eb : (nI b - 1).toInt = (b : Int) - 1 := by
    rw [tI_sub (by rw [nI_toInt (by omega), qv_1]; omega) (by rw [nI_toInt (by omega), qv_1]; omega), nI_toInt (by omega), qv_1]
  rcases in6 (x := x) with hx | hx
  · have ex : x = nI x.toInt.toNat := q_ofN hx.1
    have hs : x.toInt.toNat < 6 := by omega
    generalize x.toInt.toNat = s at *
    subst ex
    have hq := qs_is hs
    by_cases c : y = -1
    · subst c
      have cl : qK sl sx 1000 119 [.ref 4, .int (nI s), .int (-1)] M = some (some (.int 1), (q_up (q_up M.1 (36 + 2 * s) 0 (-1)) (36 + 2 * s) 1 0, M.2)) := by
        rw [e_X8_keep, b_X8_keep_0, k_shelfY hs, q_br_s, if_pos rfl, if_pos rfl, qS_rc hq, e_X5_clear, b_X5_clear_0, qS_O hq, qS_O hq, q_bv_s]
      have hfr : Fr [36, 38, 40, 42, 44, 46] M (q_up (q_up M.1 (36 + 2 * s) 0 (-1)) (36 + 2 * s) 1 0, M.2) := by
        have : s = 0 ∨ s = 1 ∨ s = 2 ∨ s = 3 ∨ s = 4 ∨ s = 5 := by omega
        rcases this with rfl | rfl | rfl | rfl | rfl | rfl <;> exact fr_up rfl (fr_up rfl fr_rf)
      obtain ⟨M1, e1⟩ : ∃ M1, M1 = ((q_up (q_up M.1 (36 + 2 * s) 0 (-1)) (36 + 2 * s) 1 0, M.2) : QM) := ⟨_, rfl⟩
      rw [← e1] at cl hfr
      have rf : qK sl sx 1000 248 [.ref 48, .int (nI s), .int (-1)] M1 = some (some (.int 1), (q_up (q_up M1.1 71 s 0) 74 s (-1), M1.2)) := by
        rw [e_X9_keep, b_X9_keep_0, k9_isShelfY hs, q_bi_s, if_neg n10, hfr.1 48 7 rfl, s3, k9_isIn, eb, if_pos (by rw [qv_m1]; omega), q_bi_s, if_neg n10, if_neg (by decide), if_neg (s6 hs), if_neg (s6 hs), s6c hs]
      have f2 : Fr [71, 74] M1 (q_up (q_up M1.1 71 s 0) 74 s (-1), M1.2) := fr_up rfl (fr_up rfl fr_rf)
      have ff := fr_t2 (l := [36, 38, 40, 42, 44, 46, 71, 74]) rfl rfl hfr f2
      refine ⟨1, M1, _, cl, rf, n, b, jF_fr rfl ff hF, jT_fr rfl ff hT, jL_fr rfl ff hL, jC_fr rfl ff hC, jD_fr rfl ff hD, jK_fr rfl ff hK, jS_fr rfl ff hS, jH_at (s := s) hH (fun s' h1 h2 => ?_) (Or.inl ?_)⟩
      · rw [e1]
        refine ⟨fun k => ?_, fun _ _ => rfl, ?_, ?_, ?_, ?_, fun _ _ => rfl⟩ <;> dsimp only <;> simp (disch := omega) only [q_up_s, q_up_a, q_up_k, q_uc_a, q_uc_s]
      · rw [e1]
        dsimp only
        constructor <;> simp (disch := omega) only [q_up_s, q_up_a, q_up_k, q_uc_a, q_uc_s]
    · by_cases g : 0 ≤ y.toInt ∧ y.toInt < b
      · have cl : qK sl sx 1000 119 [.ref 4, .int (nI s), .int y] M = some (some (.int 1), (q_up (q_up (q_up M.1 (36 + 2 * s) 0 (-2)) (36 + 2 * s) 1 0) (36 + 2 * s) 2 y, M.2)) := by
          rw [e_X8_keep, b_X8_keep_0, k_shelfY hs, q_br_s, if_neg c, it, if_pos g, q_bi_s, if_neg n10, if_neg c, qS_rc hq, e_X5_laySingle, b_X5_laySingle_0, qS_O hq, qS_O hq, qS_O hq, q_bv_s]
        have hfr : Fr [36, 38, 40, 42, 44, 46] M (q_up (q_up (q_up M.1 (36 + 2 * s) 0 (-2)) (36 + 2 * s) 1 0) (36 + 2 * s) 2 y, M.2) := by
          have : s = 0 ∨ s = 1 ∨ s = 2 ∨ s = 3 ∨ s = 4 ∨ s = 5 := by omega
          rcases this with rfl | rfl | rfl | rfl | rfl | rfl <;> exact fr_up rfl (fr_up rfl (fr_up rfl fr_rf))
        obtain ⟨M1, e1⟩ : ∃ M1, M1 = ((q_up (q_up (q_up M.1 (36 + 2 * s) 0 (-2)) (36 + 2 * s) 1 0) (36 + 2 * s) 2 y, M.2) : QM) := ⟨_, rfl⟩
        rw [← e1] at cl hfr
        have rf : qK sl sx 1000 248 [.ref 48, .int (nI s), .int y] M1 = some (some (.int 1), (q_up (q_up M1.1 71 s 1) 74 s y, M1.2)) := by
          rw [e_X9_keep, b_X9_keep_0, k9_isShelfY hs, q_bi_s, if_neg n10, hfr.1 48 7 rfl, s3, k9_isIn, eb, if_pos (by rw [qv_m1]; omega), q_bi_s, if_neg n10, if_pos (by rw [Int32.le_iff_toInt_le, qv_0]; exact g.1), if_neg (s6 hs), if_neg (s6 hs), s6c hs]
        have f2 : Fr [71, 74] M1 (q_up (q_up M1.1 71 s 1) 74 s y, M1.2) := fr_up rfl (fr_up rfl fr_rf)
        have ff := fr_t2 (l := [36, 38, 40, 42, 44, 46, 71, 74]) rfl rfl hfr f2
        refine ⟨1, M1, _, cl, rf, n, b, jF_fr rfl ff hF, jT_fr rfl ff hT, jL_fr rfl ff hL, jC_fr rfl ff hC, jD_fr rfl ff hD, jK_fr rfl ff hK, jS_fr rfl ff hS, jH_at (s := s) hH (fun s' h1 h2 => ?_) (Or.inr (Or.inl ⟨?_, ?_, ?_, y.toInt.toNat, by omega, ?_⟩))⟩
        · rw [e1]
          refine ⟨fun k => ?_, fun _ _ => rfl, ?_, ?_, ?_, ?_, fun _ _ => rfl⟩ <;> dsimp only <;> simp (disch := omega) only [q_up_s, q_up_a, q_up_k, q_uc_a, q_uc_s]
        · dsimp only
          rw [q_up_a _ _ _ _ (by decide), q_up_s]
        · rw [e1]
          dsimp only
          simp (disch := omega) only [q_up_s, q_up_a, q_up_k, q_uc_a, q_uc_s]
        · rw [e1]
          dsimp only
          simp (disch := omega) only [q_up_s, q_up_a, q_up_k, q_uc_a, q_uc_s]
        · dsimp only
          rw [q_up_s]
          exact q_ofN g.1
      · refine ⟨-1, M, M, ?_, ?_, hJ⟩
        · rw [e_X8_keep, b_X8_keep_0, k_shelfY hs, q_br_s, if_neg c, it, if_neg g, q_bi_s, if_pos rfl]
        · rw [e_X9_keep, b_X9_keep_0, k9_isShelfY hs, q_bi_s, if_neg n10, s3, k9_isIn, eb, if_neg (by rw [qv_m1]; rw [ym] at c; omega), q_bi_s, if_pos rfl]
  · refine ⟨-1, M, M, ?_, ?_, hJ⟩
    · rw [e_X8_keep, b_X8_keep_0, k_shelfN hx, q_br_n]
    · rw [e_X9_keep, b_X9_keep_0, k9_isShelfN hx, q_bi_s, if_pos rfl]
theorem k_hasPlaceZ {o : Nat} (hq : qIsS o) (hz : M.1 o 1 = nI n) (hn : n ≤ 60) : qK sl sx (d + 1) 54 [.ref o, .int x] M = some (some (.int (if 0 ≤ x.toInt ∧ x.toInt < n then 1 else 0)), M) := by
  rw [k_hasPlace hq, hz, nI_toInt (by omega)]
theorem k9_isElement (hs : s < 6) (hz : M.1 73 s = nI n) (hn : n ≤ 60) : qK sl sx (d + 1) 251 [.ref 48, .int (nI s), .int x] M = some (some (.int (if 0 ≤ x.toInt ∧ x.toInt < n then 1 else 0)), M) := by
  rw [e_X9_isElement, b_X9_isElement_0, if_neg (s6 hs), s6c hs, hz]
  simp only [Int32.lt_iff_toInt_lt, Int32.le_iff_toInt_le, qv_0, nI_toInt (show n < 2 ^ 31 by omega)]
  grind
theorem cell_ix {i : Nat} (hs : s < 6) (hi : i < 60) : (60 : Int32) * nI s + nI i = nI (60 * s + i) ∧ ¬ ((nI (60 * s + i)) < 0 ∨ 360 ≤ (nI (60 * s + i)).toNatClampNeg) ∧ (nI (60 * s + i)).toNatClampNeg = 60 * s + i := by
  have e : (60 : Int32) = nI 60 := by decide
  refine ⟨by rw [e, pk_mul, nI_add], nI_in (by omega) (by decide), nI_clamp (by omega)⟩
theorem p_element (x y : Int32) : QPl sl sx JA 122 253 [.int x, .int y] := by
  intro M hJ
  obtain ⟨n, b, hF, hT, hL, hC, hD, hK, hS, hH⟩ := id hJ
  rcases in6 (x := x) with hx | hx
  · have ex : x = nI x.toInt.toNat := q_ofN hx.1
    have hs : x.toInt.toNat < 6 := by omega
    generalize x.toInt.toNat = s at *
    subst ex
    have hq := qs_is hs
    rcases hH s hs with ⟨h1, h2⟩ | ⟨h1, h2, _⟩ | ⟨h1, o, z, ho, hz, h2, h3, h4, h5, h6⟩
    · refine ⟨-9223372036854775808, M, M, ?_, ?_, hJ⟩
      · rw [e_X8_element, b_X8_element_0, k_shelfY hs, q_br_s, qS_rc hq, k_holdsRow hq, h2, if_pos (by decide), q_bi_s, if_pos rfl]
      · rw [e_X9_element, b_X9_element_0, e_X9_barsOfRow, b_X9_barsOfRow_0, k9_isShelfY hs, q_bi_s, if_neg n10, if_neg (s6 hs), s6c hs, h1, if_pos rfl, q_bi_s, if_neg (by decide)]
    · refine ⟨-9223372036854775808, M, M, ?_, ?_, hJ⟩
      · rw [e_X8_element, b_X8_element_0, k_shelfY hs, q_br_s, qS_rc hq, k_holdsRow hq, h2, if_pos (by decide), q_bi_s, if_pos rfl]
      · rw [e_X9_element, b_X9_element_0, e_X9_barsOfRow, b_X9_barsOfRow_0, k9_isShelfY hs, q_bi_s, if_neg n10, if_neg (s6 hs), s6c hs, h1, if_neg n10, if_neg (s6n hs), if_pos rfl, q_bi_s, if_neg (by decide)]
    · have b0 : ∀ d, qK sl sx (d + 2) 250 [.ref 48, .int (nI s)] M = some (some (.int 0), M) := fun d => by
        rw [e_X9_barsOfRow, b_X9_barsOfRow_0, k9_isShelfY hs, q_bi_s, if_neg n10, if_neg (s6 hs), s6c hs, h1, if_neg (by decide), if_neg (s6n hs), if_neg (by decide)]
      have hr : ∀ d, qK sl sx (d + 1) 48 [.ref (36 + 2 * s)] M = some (some (.int 1), M) := fun d => by
        rw [k_holdsRow hq, h3, if_neg (nI_pos (by omega))]
      by_cases g : 0 ≤ y.toInt ∧ y.toInt < z
      · have ey : y = nI y.toInt.toNat := q_ofN g.1
        have hi : y.toInt.toNat < z := by omega
        obtain ⟨a1, a2, a3⟩ := cell_ix hs (show y.toInt.toNat < 60 by omega)
        have hh := h6 y.toInt.toNat (by omega)
        refine ⟨M.2 75 (60 * s + y.toInt.toNat), M, M, ?_, ?_, hJ⟩
        · rw [e_X8_element, b_X8_element_0, k_shelfY hs, q_br_s, qS_rc hq, hr, q_bi_s, if_neg n10, qS_rc hq, k_hasPlaceZ hq h5 hz, if_pos g, q_bi_s, if_neg n10, qS_rc hq, k_cell hq (by rw [h5, nI_toInt (by omega)]; omega), h5, nI_toInt (by omega), if_pos g, q_bl_s, show 36 + 2 * s + 1 = 37 + 2 * s by omega, hh.1]
        · rw [e_X9_element, b_X9_element_0, b0, q_bi_s, if_pos rfl, k9_isElement hs h4 hz, if_pos g, q_bi_s, if_neg n10]
          rw [show (60 : Int32) * nI s + y = nI (60 * s + y.toInt.toNat) by rw [← a1, ← ey], if_neg a2, a3]
      · refine ⟨-9223372036854775808, M, M, ?_, ?_, hJ⟩
        · rw [e_X8_element, b_X8_element_0, k_shelfY hs, q_br_s, qS_rc hq, hr, q_bi_s, if_neg n10, qS_rc hq, k_hasPlaceZ hq h5 hz, if_neg g, q_bi_s, if_pos rfl]
        · rw [e_X9_element, b_X9_element_0, b0, q_bi_s, if_pos rfl, k9_isElement hs h4 hz, if_neg g, q_bi_s, if_pos rfl]
  · refine ⟨-9223372036854775808, M, M, ?_, ?_, hJ⟩
    · rw [e_X8_element, b_X8_element_0, k_shelfN hx, q_br_n]
    · rw [e_X9_element, b_X9_element_0, e_X9_barsOfRow, b_X9_barsOfRow_0, k9_isShelfN hx, q_bi_s, if_pos rfl, q_bi_s, if_neg (by decide)]
end SHELF
