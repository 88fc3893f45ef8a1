/-! PAIRS: day, image, back, tell (wip/whole/f) -/
section DEED
variable {sl : Nat} {sx : Nat → Int32} {d n s : Nat} {M : QM} {x y z : Int32}
theorem k_forgetTold : ∃ M', qK sl sx (d + 1) 8 [.ref 20] M = some (none, M') ∧ Fr [23] M M' ∧ ∀ f, f < 10 → M'.1 23 f = -1 := by
  rw [e_X1_forgetTold, b_X1_forgetTold_0]
  refine q_lu (fun k i (_ : Unit) M' => qF sl sx d 8 k 2 [some (.ref 20), some (.int (nI i))] [] M') 10 (fun i _ M' => Fr [23] M M' ∧ ∀ f, f < i → M'.1 23 f = -1) (fun o => ∃ M', o = some (none, M') ∧ Fr [23] M M' ∧ ∀ f, f < 10 → M'.1 23 f = -1) (fun k i _ M' hi hI => ?_) (fun k _ M' hI => ?_) (i := 0) (s := ()) (Nat.zero_le _) (q_n1b (by decide)) ⟨fr_rf, fun f hf => by omega⟩
  · right
    refine ⟨(), (q_up M'.1 23 i (-1), M'.2), ⟨fr_up rfl hI.1, fun f hf => ?_⟩, ?_⟩
    · dsimp only
      by_cases q : f = i
      · rw [q, q_up_s]
      · rw [q_up_k _ _ _ _ q]
        exact hI.2 f (by omega)
    · rw [b_X1_forgetTold_2, if_neg (show ¬ (10 : Int32) ≤ nI i by rw [Int32.le_iff_toInt_le, nI_toInt (by omega), qv_10]; omega), if_neg (nI_in hi (by decide)), nI_1, nI_clamp (by omega)]
  · refine ⟨M', ?_, hI⟩
    rw [b_X1_forgetTold_2, if_pos (by decide)]
theorem k9_dayL : ∀ (k i N : Nat) (M : QM), k + i = 10 → k < N → ∃ M', qF sl sx d 233 N 12 [some (.ref 48), some (.int x), some (.int (nI i))] [] M = some (some (.int x), M') ∧ Fr [67, 4841] M M' ∧ (∀ f, f < 10 → M'.1 67 f = if i ≤ f then 0 else M.1 67 f) ∧ M'.1 48 41 = M.1 48 41 + 1 := by
  intro k
  induction k with
  | zero =>
    intro i N M hi hN
    obtain ⟨N, rfl⟩ : ∃ N', N = N' + 1 := ⟨N - 1, by omega⟩
    refine ⟨(q_up M.1 48 41 ((M.1 48 41) + 1), M.2), ?_, fr_up rfl fr_rf, fun f hf => ?_, q_up1 _ _ _ _ _⟩
    · rw [b_X9_day_12, if_pos (show (10 : Int32) ≤ nI i by rw [Int32.le_iff_toInt_le, nI_toInt (by omega), qv_10]; omega)]
    · rw [if_neg (by omega)]
      dsimp only
      rw [q_up_a _ _ _ _ (by decide)]
  | succ k ih =>
    intro i N M hi hN
    obtain ⟨N, rfl⟩ : ∃ N', N = N' + 1 := ⟨N - 1, by omega⟩
    obtain ⟨M', g1, g2, g3, g4⟩ := ih (i + 1) N (q_up M.1 67 i 0, M.2) (by omega) (by omega)
    refine ⟨M', ?_, fr_tr (fr_up rfl fr_rf) g2, fun f hf => ?_, g4.trans ?_⟩
    · rw [b_X9_day_12, if_neg (show ¬ (10 : Int32) ≤ nI i by rw [Int32.le_iff_toInt_le, nI_toInt (by omega), qv_10]; omega), if_neg (nI_in (by omega) (by decide)), nI_1, nI_clamp (by omega)]
      exact g1
    · rw [g3 f hf]
      dsimp only
      by_cases q : f = i
      · rw [q, q_up_s, if_neg (by omega), if_pos (Nat.le_refl _)]
      · rw [q_up_k _ _ _ _ q]
        by_cases w : i + 1 ≤ f
        · rw [if_pos w, if_pos (by omega)]
        · rw [if_neg w, if_neg (by omega)]
    · dsimp only
      rw [q_up_a _ _ _ _ (by decide)]
theorem p_day : QPi sl sx JA 110 233 [] := by
  intro M hJ
  obtain ⟨n, b, hF, hT, hL, hC, hD, hK, hS, hH⟩ := id hJ
  obtain ⟨m, d1, d2, d3, d4, d5, d6, d7, d8, d9⟩ := hD
  obtain ⟨M1, a1, a2, a3⟩ := k_forgetTold (sl := sl) (sx := sx) (d := 997) (M := (q_up (q_up (q_up M.1 22 0 0) 21 1 0) 21 2 1, M.2))
  have cl : qK sl sx 1000 110 [.ref 4] M = some (some (.int (nI m)), (q_up M1.1 20 5 ((M1.1 20 5) + 1), M1.2)) := by
    rw [e_X8_day, b_X8_day_0, e_X1_beginAnew, b_X1_beginAnew_0, k_begin (Or.inr (Or.inr (Or.inl rfl))), q_bv_s, a1, q_bv_s, q_bv_s, d3]
  have f1 : Fr [20, 21, 22, 23] M (q_up M1.1 20 5 ((M1.1 20 5) + 1), M1.2) := fr_up rfl (fr_t2 rfl rfl (fr_up (l := [21, 22]) rfl (fr_up rfl (fr_up rfl fr_rf))) a2)
  obtain ⟨M2, e2⟩ : ∃ M2, M2 = ((q_up M1.1 20 5 ((M1.1 20 5) + 1), M1.2) : QM) := ⟨_, rfl⟩
  rw [← e2] at cl f1
  obtain ⟨M3, b1, b2, b3, b4⟩ := k9_dayL (sl := sl) (sx := sx) (d := 999) (x := nI m) 10 0 q_n1 (q_up M2.1 48 37 0, M2.2) rfl (q_n1b (by decide))
  have rf : qK sl sx 1000 233 [.ref 48] M2 = some (some (.int (nI m)), M3) := by
    rw [e_X9_day, b_X9_day_0, f1.1 48 37 rfl, d2]
    exact b1
  have f2 : Fr [4837, 67, 4841] M2 M3 := fr_t2 rfl rfl (fr_up (l := [4837]) rfl fr_rf) b2
  have ff := fr_t2 (l := [20, 21, 22, 23, 4837, 67, 4841]) rfl rfl f1 f2
  refine ⟨nI m, M2, M3, cl, rf, n, b, jF_fr rfl ff hF, jT_fr rfl ff hT, jL_fr rfl ff hL, jC_fr rfl ff hC, ⟨0, by decide, ?_, ?_, fun h => absurd h (by decide), fun f hf => ?_, ?_, ?_, ?_, ?_⟩, jK_fr rfl ff hK, jS_fr rfl ff hS, jH_fr rfl ff hH⟩
  · rw [b2.1 48 37 rfl]
    exact q_up1 _ _ _ _ _
  · rw [f2.1 21 1 rfl, e2]
    dsimp only
    rw [q_up_a _ _ _ _ (by decide), a2.1 21 1 rfl]
    dsimp only
    simp (disch := omega) only [q_up_s, q_up_a, q_up_k, q_uc_a, q_uc_s]
    rfl
  · have : M3.1 23 f = -1 := by
      rw [f2.1 23 f rfl, e2]
      dsimp only
      rw [q_up_a _ _ _ _ (by decide)]
      exact a3 f hf
    rw [this, b3 f hf, if_pos (Nat.zero_le _)]
    decide
  · rw [f2.1 20 2 rfl, f2.1 48 38 rfl, f1.1 48 38 rfl, ← d6, e2]
    dsimp only
    rw [q_up_k _ _ _ _ (by decide), a2.1 20 2 rfl]
    dsimp only
    simp (disch := omega) only [q_up_s, q_up_a, q_up_k, q_uc_a, q_uc_s]
  · rw [f2.1 20 3 rfl, f2.1 48 39 rfl, f1.1 48 39 rfl, ← d7, e2]
    dsimp only
    rw [q_up_k _ _ _ _ (by decide), a2.1 20 3 rfl]
    dsimp only
    simp (disch := omega) only [q_up_s, q_up_a, q_up_k, q_uc_a, q_uc_s]
  · rw [f2.1 20 4 rfl, f2.1 48 40 rfl, f1.1 48 40 rfl, ← d8, e2]
    dsimp only
    rw [q_up_k _ _ _ _ (by decide), a2.1 20 4 rfl]
    dsimp only
    simp (disch := omega) only [q_up_s, q_up_a, q_up_k, q_uc_a, q_uc_s]
  · rw [f2.1 20 5 rfl, b4]
    dsimp only
    rw [q_up_k _ _ _ _ (show (41 : Nat) ≠ 37 by decide), f1.1 48 41 rfl, ← d9, e2]
    dsimp only
    rw [q_up_s, a2.1 20 5 rfl]
    dsimp only
    simp (disch := omega) only [q_up_s, q_up_a, q_up_k, q_uc_a, q_uc_s]
/-! an image: one deed becomes another -/
theorem k_cpyI {β : Type} {a0 a k n : Nat} {r0 r : List (Option Nat)} (h0 : q_cell qG0 (qX sl sx) a0 = some (10, n, r0)) (h1 : q_cell qG0 (qX sl sx) a = some (10, n, r)) (hn : n < 2 ^ 30) (f : QM → Option β) : q_cpy qG0 (qX sl sx) M a0 0 a 0 (Int32.ofNat n) f = f (q_uc M.1 a (va_cpy (M.1 a0) (M.1 a) 0 0 n), M.2) := by
  unfold q_cpy
  rw [h0, h1]
  simp only []
  have e : (Int32.ofNat n).toNatClampNeg = n := nI_clamp (n := n) (by omega)
  have z : (0 : Int32).toNatClampNeg = 0 := by decide
  rw [e, z, if_neg]
  · rfl
  · rintro (q | q | q | q | q)
    · exact absurd q (by decide)
    · exact absurd q (by decide)
    · exact nI_pos (n := n) (by omega) q
    · omega
    · omega
theorem k_copyDeed {a0 a1 : Nat} (h : a0 = 24 ∧ a1 = 20 ∨ a0 = 20 ∧ a1 = 24) : ∃ M', qK sl sx (d + 2) 13 [.ref a0, .ref a1] M = some (none, M') ∧ Fr [a0, a0 + 1, a0 + 2, a0 + 3] M M' ∧ M'.1 (a0 + 1) 1 = M.1 (a1 + 1) 1 ∧ M'.1 (a0 + 1) 2 = M.1 (a1 + 1) 2 ∧ (∀ j, j < 301 → M'.1 (a0 + 2) j = M.1 (a1 + 2) j) ∧ (∀ j, j < 10 → M'.1 (a0 + 3) j = M.1 (a1 + 3) j) ∧ ∀ k, 2 ≤ k → k ≤ 5 → M'.1 a0 k = M.1 a1 k := by
  have v : ∀ (f g : Nat → Int32) (n j : Nat), j < n → va_cpy f g 0 0 n j = f j := by
    intro f g n j hj
    unfold va_cpy
    rw [if_pos ⟨Nat.zero_le _, by omega⟩, Nat.zero_add, Nat.sub_zero]
  rcases h with ⟨rfl, rfl⟩ | ⟨rfl, rfl⟩
  · have t : ∀ M : QM, qK sl sx (d + 1) 76 [.ref 25, .ref 21] M = some (none, (q_up (q_up (q_uc M.1 26 (va_cpy (M.1 22) (M.1 26) 0 0 301)) 25 1 ((q_uc M.1 26 (va_cpy (M.1 22) (M.1 26) 0 0 301)) 21 1)) 25 2 ((q_up (q_uc M.1 26 (va_cpy (M.1 22) (M.1 26) 0 0 301)) 25 1 ((q_uc M.1 26 (va_cpy (M.1 22) (M.1 26) 0 0 301)) 21 1)) 21 2), M.2)) := fun M => by
      rw [e_X7_copyOf, b_X7_copyOf_0, qT_A (t := 21) (Or.inr (Or.inr (Or.inl rfl))), qT_A (t := 25) (Or.inr (Or.inr (Or.inr rfl))), qT_A (t := 25) (Or.inr (Or.inr (Or.inr rfl))), qT_len (t := 25) (Or.inr (Or.inr (Or.inr rfl))), k_cpyI (k := 0) rfl rfl (by decide)]
      rfl
    have e : ∀ M : QM, qF sl sx (d + 1) 13 (q_n1 + 1) 0 [some (.ref 24), some (.ref 20)] [] M = q_bv (qK sl sx (d + 1) 76 [.ref 25, .ref 21] M) (fun M3 => q_cpy qG0 (qX sl sx) M3 23 0 27 0 (Int32.ofNat 10) (fun M8 => (some (none, ((q_up (q_up (q_up (q_up M8.1 24 2 (M8.1 20 2)) 24 3 ((q_up M8.1 24 2 (M8.1 20 2)) 20 3)) 24 4 ((q_up (q_up M8.1 24 2 (M8.1 20 2)) 24 3 ((q_up M8.1 24 2 (M8.1 20 2)) 20 3)) 20 4)) 24 5 ((q_up (q_up (q_up M8.1 24 2 (M8.1 20 2)) 24 3 ((q_up M8.1 24 2 (M8.1 20 2)) 20 3)) 24 4 ((q_up (q_up M8.1 24 2 (M8.1 20 2)) 24 3 ((q_up M8.1 24 2 (M8.1 20 2)) 20 3)) 20 4)) 20 5)), M8.2))))) := fun M => by
      rw [b_X1_copyOf_0]
      rfl
    rw [e_X1_copyOf, e, t, q_bv_s, k_cpyI (k := 0) rfl rfl (by decide)]
    refine ⟨_, rfl, fr_up rfl (fr_up rfl (fr_up rfl (fr_up rfl (fr_uc (fun _ => rfl) (fr_up rfl (fr_up rfl (fr_uc (fun _ => rfl) fr_rf))))))), ?_, ?_, fun j hj => ?_, fun j hj => ?_, fun k h1 h2 => ?_⟩
    · dsimp only
      simp (disch := omega) only [q_up_s, q_up_a, q_up_k, q_uc_a, q_uc_s]
    · dsimp only
      simp (disch := omega) only [q_up_s, q_up_a, q_up_k, q_uc_a, q_uc_s]
    · dsimp only
      simp (disch := omega) only [q_up_s, q_up_a, q_up_k, q_uc_a, q_uc_s]
      exact v _ _ _ _ hj
    · dsimp only
      simp (disch := omega) only [q_up_s, q_up_a, q_up_k, q_uc_a, q_uc_s]
      rw [v _ _ _ _ hj]
      simp (disch := omega) only [q_up_s, q_up_a, q_up_k, q_uc_a, q_uc_s]
    · have : k = 2 ∨ k = 3 ∨ k = 4 ∨ k = 5 := by omega
      rcases this with rfl | rfl | rfl | rfl <;> (dsimp only; simp (disch := omega) only [q_up_s, q_up_a, q_up_k, q_uc_a, q_uc_s])
  · have t : ∀ M : QM, qK sl sx (d + 1) 76 [.ref 21, .ref 25] M = some (none, (q_up (q_up (q_uc M.1 22 (va_cpy (M.1 26) (M.1 22) 0 0 301)) 21 1 ((q_uc M.1 22 (va_cpy (M.1 26) (M.1 22) 0 0 301)) 25 1)) 21 2 ((q_up (q_uc M.1 22 (va_cpy (M.1 26) (M.1 22) 0 0 301)) 21 1 ((q_uc M.1 22 (va_cpy (M.1 26) (M.1 22) 0 0 301)) 25 1)) 25 2), M.2)) := fun M => by
      rw [e_X7_copyOf, b_X7_copyOf_0, qT_A (t := 25) (Or.inr (Or.inr (Or.inr rfl))), qT_A (t := 21) (Or.inr (Or.inr (Or.inl rfl))), qT_A (t := 21) (Or.inr (Or.inr (Or.inl rfl))), qT_len (t := 21) (Or.inr (Or.inr (Or.inl rfl))), k_cpyI (k := 0) rfl rfl (by decide)]
      rfl
    have e : ∀ M : QM, qF sl sx (d + 1) 13 (q_n1 + 1) 0 [some (.ref 20), some (.ref 24)] [] M = q_bv (qK sl sx (d + 1) 76 [.ref 21, .ref 25] M) (fun M3 => q_cpy qG0 (qX sl sx) M3 27 0 23 0 (Int32.ofNat 10) (fun M8 => (some (none, ((q_up (q_up (q_up (q_up M8.1 20 2 (M8.1 24 2)) 20 3 ((q_up M8.1 20 2 (M8.1 24 2)) 24 3)) 20 4 ((q_up (q_up M8.1 20 2 (M8.1 24 2)) 20 3 ((q_up M8.1 20 2 (M8.1 24 2)) 24 3)) 24 4)) 20 5 ((q_up (q_up (q_up M8.1 20 2 (M8.1 24 2)) 20 3 ((q_up M8.1 20 2 (M8.1 24 2)) 24 3)) 20 4 ((q_up (q_up M8.1 20 2 (M8.1 24 2)) 20 3 ((q_up M8.1 20 2 (M8.1 24 2)) 24 3)) 24 4)) 24 5)), M8.2))))) := fun M => by
      rw [b_X1_copyOf_0]
      rfl
    rw [e_X1_copyOf, e, t, q_bv_s, k_cpyI (k := 0) rfl rfl (by decide)]
    refine ⟨_, rfl, fr_up rfl (fr_up rfl (fr_up rfl (fr_up rfl (fr_uc (fun _ => rfl) (fr_up rfl (fr_up rfl (fr_uc (fun _ => rfl) fr_rf))))))), ?_, ?_, fun j hj => ?_, fun j hj => ?_, fun k h1 h2 => ?_⟩
    · dsimp only
      simp (disch := omega) only [q_up_s, q_up_a, q_up_k, q_uc_a, q_uc_s]
    · dsimp only
      simp (disch := omega) only [q_up_s, q_up_a, q_up_k, q_uc_a, q_uc_s]
    · dsimp only
      simp (disch := omega) only [q_up_s, q_up_a, q_up_k, q_uc_a, q_uc_s]
      exact v _ _ _ _ hj
    · dsimp only
      simp (disch := omega) only [q_up_s, q_up_a, q_up_k, q_uc_a, q_uc_s]
      rw [v _ _ _ _ hj]
      simp (disch := omega) only [q_up_s, q_up_a, q_up_k, q_uc_a, q_uc_s]
    · have : k = 2 ∨ k = 3 ∨ k = 4 ∨ k = 5 := by omega
      rcases this with rfl | rfl | rfl | rfl <;> (dsimp only; simp (disch := omega) only [q_up_s, q_up_a, q_up_k, q_uc_a, q_uc_s])
theorem de_copy {M M' : QM} {t c a t' c' a' : Nat} {h s h' s' : Nat → Int32} {nw p st te dy : Int32} (D : DE M t c a h s nw p st te dy) (e1 : M'.1 t' 1 = M.1 t 1) (e2 : M'.1 t' 2 = M.1 t 2) (e3 : ∀ j, j < 301 → M'.1 (t' + 1) j = M.1 (t + 1) j) (e4 : ∀ j, j < 10 → M'.1 c' j = M.1 c j) (e5 : ∀ k, 2 ≤ k → k ≤ 5 → M'.1 a' k = M.1 a k) (e6 : ∀ j, j < 301 → h' j = h j) (e7 : ∀ j, j < 10 → s' j = s j) : DE M' t' c' a' h' s' nw p st te dy := by
  obtain ⟨m, d1, d2, d3, d4, d5, d6, d7, d8, d9⟩ := D
  refine ⟨m, d1, d2, e1.trans d3, fun hm => ⟨⟨e1.trans d3, ?_, d1, fun j hj => ?_⟩, fun j hj => ?_⟩, fun f hf => ?_, (e5 2 (by decide) (by decide)).trans d6, (e5 3 (by decide) (by decide)).trans d7, (e5 4 (by decide) (by decide)).trans d8, (e5 5 (by decide) (by decide)).trans d9⟩
  · rw [e2, (d4 hm).1.2.1, lr_congr m (fun j hj => e6 j (by omega))]
  · rw [e3 j (by omega), e6 j (by omega)]
    exact (d4 hm).1.2.2.2 j hj
  · rw [e6 j (by omega)]
    exact (d4 hm).2 j hj
  · rw [e4 f hf, e7 f hf]
    exact d5 f hf
theorem k9_imgA : ∀ (k i N : Nat) (M : QM), k + i = 301 → k + 1 < N → ∃ N' M', N ≤ N' + k + 1 ∧ qF sl sx d 235 N 7 [some (.ref 48), some (.int (nI i))] [] M = qF sl sx d 235 N' 34 [some (.ref 48), some (.int 0)] [] M' ∧ Fr [68] M M' ∧ ∀ j, M'.1 68 j = if i ≤ j ∧ j < 301 then M.1 63 j else M.1 68 j := by
  intro k
  induction k with
  | zero =>
    intro i N M hi hN
    obtain ⟨N, rfl⟩ : ∃ N', N = N' + 1 := ⟨N - 1, by omega⟩
    refine ⟨N, M, by omega, ?_, fr_rf, fun j => ?_⟩
    · rw [b_X9_image_7, if_pos (show (300 : Int32) < nI i by rw [Int32.lt_iff_toInt_lt, nI_toInt (by omega), qv_300]; omega)]
    · rw [if_neg (by omega)]
  | succ k ih =>
    intro i N M hi hN
    obtain ⟨N, rfl⟩ : ∃ N', N = N' + 1 := ⟨N - 1, by omega⟩
    obtain ⟨N', M', g0, g1, g2, g3⟩ := ih (i + 1) N (q_up M.1 68 i (M.1 63 i), M.2) (by omega) (by omega)
    refine ⟨N', M', by omega, ?_, fr_tr (fr_up rfl fr_rf) g2, fun j => ?_⟩
    · rw [b_X9_image_7, if_neg (show ¬ (300 : Int32) < nI i by rw [Int32.lt_iff_toInt_lt, nI_toInt (by omega), qv_300]; omega), if_neg (nI_in (by omega) (by decide)), if_neg (nI_in (by omega) (by decide)), nI_1, nI_clamp (by omega)]
      exact g1
    · rw [g3 j]
      dsimp only
      rw [q_up_a _ _ _ _ (show (63 : Nat) ≠ 68 by decide)]
      by_cases q : j = i
      · rw [q, q_up_s, if_neg (by omega), if_pos (by omega)]
      · rw [q_up_k _ _ _ _ q]
        by_cases w : i + 1 ≤ j ∧ j < 301
        · rw [if_pos w, if_pos (by omega)]
        · rw [if_neg w, if_neg (by omega)]
theorem k9_imgB : ∀ (k i N : Nat) (M : QM), k + i = 10 → k < N → ∃ M', qF sl sx d 235 N 34 [some (.ref 48), some (.int (nI i))] [] M = some (some (.int (M.1 48 37)), M') ∧ Fr [68] M M' ∧ (∀ j, j < 301 → M'.1 68 j = M.1 68 j) ∧ (∀ f, f < 10 → M'.1 68 (301 + f) = if i ≤ f then M.1 67 f else M.1 68 (301 + f)) ∧ M'.1 68 311 = M.1 48 37 ∧ M'.1 68 312 = M.1 48 38 ∧ M'.1 68 313 = M.1 48 39 ∧ M'.1 68 314 = M.1 48 40 ∧ M'.1 68 315 = M.1 48 41 := by
  intro k
  induction k with
  | zero =>
    intro i N M hi hN
    obtain ⟨N, rfl⟩ : ∃ N', N = N' + 1 := ⟨N - 1, by omega⟩
    refine ⟨(q_up (q_up (q_up (q_up (q_up M.1 68 311 (M.1 48 37)) 68 312 (M.1 48 38)) 68 313 (M.1 48 39)) 68 314 (M.1 48 40)) 68 315 (M.1 48 41), M.2), ?_, fr_up rfl (fr_up rfl (fr_up rfl (fr_up rfl (fr_up rfl fr_rf)))), fun j hj => ?_, fun f hf => ?_, ?_, ?_, ?_, ?_, ?_⟩
    · rw [b_X9_image_34, if_pos (show (10 : Int32) ≤ nI i by rw [Int32.le_iff_toInt_le, nI_toInt (by omega), qv_10]; omega)]
    · dsimp only
      simp (disch := omega) only [q_up_s, q_up_a, q_up_k, q_uc_a, q_uc_s]
    · rw [if_neg (by omega)]
      dsimp only
      simp (disch := omega) only [q_up_s, q_up_a, q_up_k, q_uc_a, q_uc_s]
    all_goals (dsimp only; simp (disch := omega) only [q_up_s, q_up_a, q_up_k, q_uc_a, q_uc_s])
  | succ k ih =>
    intro i N M hi hN
    obtain ⟨N, rfl⟩ : ∃ N', N = N' + 1 := ⟨N - 1, by omega⟩
    have e301 : (301 : Int32) = nI 301 := by decide
    obtain ⟨M', g1, g2, g3, g4, g5⟩ := ih (i + 1) N (q_up M.1 68 (301 + i) (M.1 67 i), M.2) (by omega) (by omega)
    refine ⟨M', ?_, fr_tr (fr_up rfl fr_rf) g2, fun j hj => ?_, fun f hf => ?_, ?_⟩
    · rw [b_X9_image_34, if_neg (show ¬ (10 : Int32) ≤ nI i by rw [Int32.le_iff_toInt_le, nI_toInt (by omega), qv_10]; omega), e301, nI_add, if_neg (nI_in (by omega) (by decide)), if_neg (nI_in (by omega) (by decide)), nI_1, nI_clamp (by omega), nI_clamp (by omega), g1]
      dsimp only
      rw [q_up_a _ _ _ _ (by decide)]
    · rw [g3 j hj]
      dsimp only
      rw [q_up_k _ _ _ _ (by omega)]
    · rw [g4 f hf]
      dsimp only
      rw [q_up_a _ _ _ _ (show (67 : Nat) ≠ 68 by decide)]
      by_cases q : f = i
      · rw [q, q_up_s, if_neg (by omega), if_pos (by omega)]
      · rw [q_up_k _ _ _ _ (by omega)]
        by_cases w : i + 1 ≤ f
        · rw [if_pos w, if_pos (by omega)]
        · rw [if_neg w, if_neg (by omega)]
    · dsimp only at g5
      simp only [q_up_a _ _ _ _ (show (48 : Nat) ≠ 68 by decide)] at g5
      exact g5
theorem p_image : QPi sl sx JA 112 235 [] := by
  intro M hJ
  obtain ⟨n, b, hF, hT, hL, hC, hD, hK, hS, hH⟩ := id hJ
  obtain ⟨m, d1, d2, d3, _⟩ := id hD
  obtain ⟨M1, a1, a2, a3, a4, a5, a6, a7⟩ := k_copyDeed (sl := sl) (sx := sx) (d := 997) (M := M) (a0 := 24) (a1 := 20) (Or.inl ⟨rfl, rfl⟩)
  have cl : qK sl sx 1000 112 [.ref 4] M = some (some (.int (nI m)), (q_up M1.1 4 9 1, M1.2)) := by
    rw [e_X8_image, b_X8_image_0, a1, q_bv_s, a2.1 21 1 rfl, d3]
  have f1 : Fr [4, 24, 25, 26, 27] M (q_up M1.1 4 9 1, M1.2) := fr_up rfl (fr_mo rfl a2)
  obtain ⟨M2, e2⟩ : ∃ M2, M2 = ((q_up M1.1 4 9 1, M1.2) : QM) := ⟨_, rfl⟩
  rw [← e2] at cl f1
  obtain ⟨N', M3, b0, b1, b2, b3⟩ := k9_imgA (sl := sl) (sx := sx) (d := 999) 301 0 q_n1 (q_up M2.1 48 44 1, M2.2) rfl (q_n1b (by decide))
  obtain ⟨M4, c1, c2, c3, c4, c5, c6, c7, c8, c9⟩ := k9_imgB (sl := sl) (sx := sx) (d := 999) 10 0 N' M3 rfl (by have := q_n1b (k := 500) (by decide); omega)
  have f2 : Fr [4844, 68] M2 M4 := fr_t2 rfl rfl (fr_up (l := [4844]) rfl fr_rf) (fr_t2 (l := [68]) rfl rfl b2 c2)
  have f23 : Fr [4844, 68] M2 M3 := fr_t2 rfl rfl (fr_up (l := [4844]) rfl fr_rf) b2
  have ff := fr_t2 (l := [4, 24, 25, 26, 27, 4844, 68]) rfl rfl f1 f2
  have ff3 := fr_t2 (l := [4, 24, 25, 26, 27, 4844, 68]) rfl rfl f1 f23
  have rf : qK sl sx 1000 235 [.ref 48] M2 = some (some (.int (nI m)), M4) := by
    rw [e_X9_image, b_X9_image_0]
    refine b1.trans (c1.trans ?_)
    rw [ff3.1 48 37 rfl, d2]
  have q9 : M4.1 4 9 = 1 := by
    rw [f2.1 4 9 rfl, e2]
    exact q_up1 _ _ _ _ _
  have q44 : M4.1 48 44 = 1 := by
    rw [c2.1 48 44 rfl, b2.1 48 44 rfl]
    exact q_up1 _ _ _ _ _
  refine ⟨nI m, M2, M4, cl, rf, n, b, jF_fr rfl ff hF, jT_fr rfl ff hT, jL_fr rfl ff hL, jC_fr rfl ff hC, jD_fr rfl ff hD, ⟨q9.trans q44.symm, Or.inr q44, fun _ => ?_⟩, jS_fr rfl ff hS, jH_fr rfl ff hH⟩
  rw [c5, c6, c7, c8, c9, ff3.1 48 37 rfl, ff3.1 48 38 rfl, ff3.1 48 39 rfl, ff3.1 48 40 rfl, ff3.1 48 41 rfl]
  have e4 : ∀ a k, a = 24 ∨ a = 25 ∨ a = 26 ∨ a = 27 → M4.1 a k = M1.1 a k := by
    intro a k ha
    have : M4.1 a k = M2.1 a k := by rcases ha with rfl | rfl | rfl | rfl <;> exact f2.1 _ k rfl
    rw [this, e2]
    dsimp only
    rw [q_up_a _ _ _ _ (by omega)]
  refine de_copy (M' := M4) (t' := 25) (c' := 27) (a' := 24) hD ?_ ?_ (fun j hj => ?_) (fun j hj => ?_) (fun k h1 h2 => ?_) (fun j hj => ?_) (fun j hj => ?_)
  · rw [e4 _ _ (by omega)]; exact a3
  · rw [e4 _ _ (by omega)]; exact a4
  · rw [e4 _ _ (by omega)]; exact a5 j hj
  · rw [e4 _ _ (by omega)]; exact a6 j hj
  · rw [e4 _ _ (by omega)]; exact a7 k h1 h2
  · rw [c3 j hj, b3, if_pos ⟨Nat.zero_le _, hj⟩]
    dsimp only
    rw [q_up_a _ _ _ _ (by decide), f1.1 63 j rfl]
  · show M4.1 68 (301 + j) = _
    rw [c4 j hj, if_pos (Nat.zero_le _), ff3.1 67 j rfl]
theorem k9_bakA : ∀ (k i N : Nat) (M : QM), k + i = 301 → k + 1 < N → ∃ N' M', N ≤ N' + k + 1 ∧ qF sl sx d 236 N 12 [some (.ref 48), some (.int (nI i))] [] M = qF sl sx d 236 N' 39 [some (.ref 48), some (.int 0)] [] M' ∧ Fr [63] M M' ∧ ∀ j, M'.1 63 j = if i ≤ j ∧ j < 301 then M.1 68 j else M.1 63 j := by
  intro k
  induction k with
  | zero =>
    intro i N M hi hN
    obtain ⟨N, rfl⟩ : ∃ N', N = N' + 1 := ⟨N - 1, by omega⟩
    refine ⟨N, M, by omega, ?_, fr_rf, fun j => ?_⟩
    · rw [b_X9_back_12, if_pos (show (300 : Int32) < nI i by rw [Int32.lt_iff_toInt_lt, nI_toInt (by omega), qv_300]; omega)]
    · rw [if_neg (by omega)]
  | succ k ih =>
    intro i N M hi hN
    obtain ⟨N, rfl⟩ : ∃ N', N = N' + 1 := ⟨N - 1, by omega⟩
    obtain ⟨N', M', g0, g1, g2, g3⟩ := ih (i + 1) N (q_up M.1 63 i (M.1 68 i), M.2) (by omega) (by omega)
    refine ⟨N', M', by omega, ?_, fr_tr (fr_up rfl fr_rf) g2, fun j => ?_⟩
    · rw [b_X9_back_12, if_neg (show ¬ (300 : Int32) < nI i by rw [Int32.lt_iff_toInt_lt, nI_toInt (by omega), qv_300]; omega), if_neg (nI_in (by omega) (by decide)), if_neg (nI_in (by omega) (by decide)), nI_1, nI_clamp (by omega)]
      exact g1
    · rw [g3 j]
      dsimp only
      rw [q_up_a _ _ _ _ (show (68 : Nat) ≠ 63 by decide)]
      by_cases q : j = i
      · rw [q, q_up_s, if_neg (by omega), if_pos (by omega)]
      · rw [q_up_k _ _ _ _ q]
        by_cases w : i + 1 ≤ j ∧ j < 301
        · rw [if_pos w, if_pos (by omega)]
        · rw [if_neg w, if_neg (by omega)]
theorem k9_bakB : ∀ (k i N : Nat) (M : QM), k + i = 10 → k < N → ∃ M', qF sl sx d 236 N 39 [some (.ref 48), some (.int (nI i))] [] M = some (some (.int (M.1 68 311)), M') ∧ Fr [67, 4837, 4838, 4839, 4840, 4841] M M' ∧ (∀ f, f < 10 → M'.1 67 f = if i ≤ f then M.1 68 (301 + f) else M.1 67 f) ∧ M'.1 48 37 = M.1 68 311 ∧ M'.1 48 38 = M.1 68 312 ∧ M'.1 48 39 = M.1 68 313 ∧ M'.1 48 40 = M.1 68 314 ∧ M'.1 48 41 = M.1 68 315 := by
  intro k
  induction k with
  | zero =>
    intro i N M hi hN
    obtain ⟨N, rfl⟩ : ∃ N', N = N' + 1 := ⟨N - 1, by omega⟩
    refine ⟨(q_up (q_up (q_up (q_up (q_up M.1 48 37 (M.1 68 311)) 48 38 (M.1 68 312)) 48 39 (M.1 68 313)) 48 40 (M.1 68 314)) 48 41 (M.1 68 315), M.2), ?_, fr_up rfl (fr_up rfl (fr_up rfl (fr_up rfl (fr_up rfl fr_rf)))), fun f hf => ?_, ?_, ?_, ?_, ?_, ?_⟩
    · rw [b_X9_back_39, if_pos (show (10 : Int32) ≤ nI i by rw [Int32.le_iff_toInt_le, nI_toInt (by omega), qv_10]; omega), q_up_s]
    · rw [if_neg (by omega)]
      dsimp only
      simp (disch := omega) only [q_up_s, q_up_a, q_up_k, q_uc_a, q_uc_s]
    all_goals (dsimp only; simp (disch := omega) only [q_up_s, q_up_a, q_up_k, q_uc_a, q_uc_s])
  | succ k ih =>
    intro i N M hi hN
    obtain ⟨N, rfl⟩ : ∃ N', N = N' + 1 := ⟨N - 1, by omega⟩
    have e301 : (301 : Int32) = nI 301 := by decide
    obtain ⟨M', g1, g2, g4, g5⟩ := ih (i + 1) N (q_up M.1 67 i (M.1 68 (301 + i)), M.2) (by omega) (by omega)
    refine ⟨M', ?_, fr_t2 rfl rfl (fr_up (l := [67]) rfl fr_rf) g2, fun f hf => ?_, ?_⟩
    · rw [b_X9_back_39, if_neg (show ¬ (10 : Int32) ≤ nI i by rw [Int32.le_iff_toInt_le, nI_toInt (by omega), qv_10]; omega), e301, nI_add, if_neg (nI_in (by omega) (by decide)), if_neg (nI_in (by omega) (by decide)), nI_1, nI_clamp (by omega), nI_clamp (by omega), g1]
      dsimp only
      rw [q_up_a _ _ _ _ (by decide)]
    · rw [g4 f hf]
      dsimp only
      rw [q_up_a _ _ _ _ (show (68 : Nat) ≠ 67 by decide)]
      by_cases q : f = i
      · rw [q, q_up_s, if_neg (by omega), if_pos (by omega)]
      · rw [q_up_k _ _ _ _ q]
        by_cases w : i + 1 ≤ f
        · rw [if_pos w, if_pos (by omega)]
        · rw [if_neg w, if_neg (by omega)]
    · dsimp only at g5
      simp only [q_up_a _ _ _ _ (show (68 : Nat) ≠ 67 by decide)] at g5
      exact g5
theorem p_back : QPi sl sx JA 113 236 [] := by
  intro M hJ
  obtain ⟨n, b, hF, hT, hL, hC, hD, hK, hS, hH⟩ := id hJ
  obtain ⟨k1, k2, k3⟩ := id hK
  rcases k2 with q0 | q1
  · refine ⟨-5, M, M, ?_, ?_, hJ⟩
    · rw [e_X8_back, b_X8_back_0, k1, if_pos q0]
    · rw [e_X9_back, b_X9_back_0, if_pos q0]
  have hD' := k3 q1
  obtain ⟨m, d1, d2, d3, _⟩ := id hD'
  obtain ⟨M1, a1, a2, a3, a4, a5, a6, a7⟩ := k_copyDeed (sl := sl) (sx := sx) (d := 997) (M := M) (a0 := 20) (a1 := 24) (Or.inr ⟨rfl, rfl⟩)
  have cl : qK sl sx 1000 113 [.ref 4] M = some (some (.int (nI m)), M1) := by
    rw [e_X8_back, b_X8_back_0, k1, if_neg (by rw [q1]; decide), a1, q_bv_s, a3]
    rw [d3]
  obtain ⟨N', M3, b0, b1, b2, b3⟩ := k9_bakA (sl := sl) (sx := sx) (d := 999) 301 0 q_n1 M1 rfl (q_n1b (by decide))
  obtain ⟨M4, c1, c2, c4, c5, c6, c7, c8, c9⟩ := k9_bakB (sl := sl) (sx := sx) (d := 999) 10 0 N' M3 rfl (by have := q_n1b (k := 500) (by decide); omega)
  have f2 := fr_t2 (l := [63, 67, 4837, 4838, 4839, 4840, 4841]) rfl rfl b2 c2
  have ff := fr_t2 (l := [20, 21, 22, 23, 63, 67, 4837, 4838, 4839, 4840, 4841]) rfl rfl a2 f2
  have m3 : ∀ j, M3.1 68 j = M.1 68 j := fun j => (b2.1 68 j rfl).trans (a2.1 68 j rfl)
  have rf : qK sl sx 1000 236 [.ref 48] M1 = some (some (.int (nI m)), M4) := by
    rw [e_X9_back, b_X9_back_0, a2.1 48 44 rfl, q1, if_neg n10]
    refine b1.trans (c1.trans ?_)
    rw [m3, d2]
  refine ⟨nI m, M1, M4, cl, rf, n, b, jF_fr rfl ff hF, jT_fr rfl ff hT, jL_fr rfl ff hL, jC_fr rfl ff hC, ?_, jK_fr rfl ff hK, jS_fr rfl ff hS, jH_fr rfl ff hH⟩
  unfold JD
  rw [c5, c6, c7, c8, c9, m3, m3, m3, m3, m3]
  refine de_copy (M' := M4) (t' := 21) (c' := 23) (a' := 20) hD' ?_ ?_ (fun j hj => ?_) (fun j hj => ?_) (fun k h1 h2 => ?_) (fun j hj => ?_) (fun j hj => ?_)
  · rw [f2.1 21 1 rfl]; exact a3
  · rw [f2.1 21 2 rfl]; exact a4
  · rw [f2.1 22 j rfl]; exact a5 j hj
  · rw [f2.1 23 j rfl]; exact a6 j hj
  · rw [f2.1 20 k rfl]; exact a7 k h1 h2
  · rw [c2.1 63 j rfl, b3, if_pos ⟨Nat.zero_le _, hj⟩, a2.1 68 j rfl]
  · rw [c4 j hj, if_pos (Nat.zero_le _), m3]
end DEED
