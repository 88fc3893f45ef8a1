/-! PAIRS: tell, pass (wip/whole/f) -/
section PASS
variable {sl : Nat} {sx : Nat → Int32} {d n s : Nat} {M : QM} {x y z : Int32}
/-- the deed's strokes as the reference has them when BEGINS is rung in minute 0 -/
def hB (M : QM) : Nat → Int32 := fun j => if j = 0 ∧ M.1 48 37 = 0 then M.1 48 2 else M.1 63 j
theorem jd_hR (hF : JF n M) {m : Nat} (d2 : M.1 48 37 = nI m) (d1 : m ≤ 300) (d4 : 0 < m → TW M 21 m (M.1 63) ∧ ∀ j, j ≤ m → q_R3 (M.1 63 j)) : ∀ j, j ≤ m → q_R3 (hB M j) := by
  intro j hj
  obtain ⟨_, _, _, _, _, _, _, j8, _, _, j11, _⟩ := hF
  unfold hB
  by_cases c : j = 0 ∧ M.1 48 37 = 0
  · rw [if_pos c, ← j8]; exact j11
  · rw [if_neg c]
    have : 0 < m := by
      rcases Nat.eq_zero_or_pos m with q | q
      · subst q
        exact absurd ⟨by omega, d2⟩ c
      · exact q
    exact (d4 this).2 j hj
theorem k_beginDeed {m : Nat} (hF : JF n M) (d1 : m ≤ 300) (d2 : M.1 48 37 = nI m) (d3 : M.1 21 1 = nI m) (d4 : 0 < m → TW M 21 m (M.1 63) ∧ ∀ j, j ≤ m → q_R3 (M.1 63 j)) : ∃ M', qK sl sx (d + 3) 149 [.ref 4] M = some (none, M') ∧ Fr [21, 22] M M' ∧ TW M' 21 m (hB M) := by
  obtain ⟨_, _, _, _, _, _, _, j8, _⟩ := hF
  rw [e_X8_beginDeed, b_X8_beginDeed_0, d3]
  by_cases c : m = 0
  · subst c
    rw [if_pos (show nI 0 = 0 from rfl), k_common6 (Or.inl rfl), q_bi_s, k_begin (Or.inr (Or.inr (Or.inl rfl))), q_bv_s, j8]
    refine ⟨_, rfl, fr_up rfl (fr_up rfl (fr_up rfl fr_rf)), ?_, ?_, Nat.zero_le _, fun j hj => ?_⟩
    · dsimp only
      simp (disch := omega) only [q_up_s, q_up_a, q_up_k, q_uc_a, q_uc_s]
      rfl
    · dsimp only
      simp (disch := omega) only [q_up_s, q_up_a, q_up_k, q_uc_a, q_uc_s]
      rfl
    · have j0 : j = 0 := by omega
      subst j0
      unfold hB
      rw [if_pos ⟨rfl, d2⟩]
      dsimp only
      simp (disch := omega) only [q_up_s, q_up_a, q_up_k, q_uc_a, q_uc_s]
  · have c0 : ¬ nI m = 0 := nI_ne0 (by omega) (by omega)
    rw [if_neg c0]
    have e : ∀ j, hB M j = M.1 63 j := fun j => by
      unfold hB
      rw [if_neg]
      rintro ⟨_, q⟩
      rw [d2] at q
      exact c0 q
    obtain ⟨t1, t2, t3, t4⟩ := (d4 (by omega)).1
    exact ⟨M, rfl, fr_rf, t1, by rw [t2, lr_congr m (fun j _ => (e j).symm)], t3, fun j hj => by rw [t4 j hj, e]⟩
/-- what a farm does NOW -/
def dN (M : QM) (m f : Nat) : Int32 := if 0 < (M.1 67 f).toInt then M.1 67 f - 1 else sgn (RN M) f m (hB M)
theorem dn_R {m f : Nat} (hF : JF n M) (hf : f < n) (d5 : ∀ f, f < 10 → M.1 67 f = M.1 23 f + 1 ∧ -1 ≤ (M.1 23 f).toInt ∧ (M.1 23 f).toInt ≤ 3) (hh : ∀ j, j ≤ m → q_R3 (hB M j)) : q_R3 (dN M m f) := by
  obtain ⟨j1, j2, j3, j4, j5, _⟩ := hF
  unfold dN
  obtain ⟨s1, s2, s3⟩ := d5 f (by omega)
  have e : (M.1 67 f).toInt = (M.1 23 f).toInt + 1 := by
    rw [s1, tI_add (by rw [qv_1]; omega) (by rw [qv_1]; omega), qv_1]
  by_cases c : 0 < (M.1 67 f).toInt
  · rw [if_pos c]
    have e2 : (M.1 67 f - 1).toInt = (M.1 23 f).toInt := by
      rw [tI_sub (by rw [qv_1]; omega) (by rw [qv_1]; omega), qv_1]
      omega
    unfold q_R3
    rw [e2]
    omega
  · rw [if_neg c]
    refine sgn_R ?_ hh
    have := j4 f hf
    unfold Rg at this ⊢
    rw [← j5 (5 * f) (by omega), ← j5 (5 * f + 1) (by omega), ← j5 (5 * f + 2) (by omega), ← j5 (5 * f + 3) (by omega), ← j5 (5 * f + 4) (by omega)]
    exact this
theorem k_doingNow {m f : Nat} {M' : QM} (hF : JF n M) (hf : f < n) (d1 : m ≤ 300) (d5 : ∀ f, f < 10 → M.1 67 f = M.1 23 f + 1 ∧ -1 ≤ (M.1 23 f).toInt ∧ (M.1 23 f).toInt ≤ 3) (hT : TW M' 21 m (hB M)) (e6 : M'.1 6 = M.1 6) (e23 : ∀ f, M'.1 23 f = M.1 23 f) : qK sl sx (d + 3) 148 [.ref 4, .int (nI f)] M' = some (some (.int (dN M m f)), M') := by
  obtain ⟨j1, j2, j3, j4, j5, _⟩ := hF
  obtain ⟨s1, s2, s3⟩ := d5 f (by omega)
  have e : (M.1 67 f).toInt = (M.1 23 f).toInt + 1 := by
    rw [s1, tI_add (by rw [qv_1]; omega) (by rw [qv_1]; omega), qv_1]
  have es : M.1 67 f - 1 = M.1 23 f := by
    rw [s1, Int32.add_sub_cancel]
  have ti : qK sl sx (d + 2) 9 [.ref 20, .int (nI f)] M' = some (some (.int (M.1 23 f)), M') := by
    rw [e_X1_toldTo, b_X1_toldTo_0, if_neg (nI_pos (by omega)), if_neg (show ¬ (10 : Int32) ≤ nI f by rw [Int32.le_iff_toInt_le, nI_toInt (by omega), qv_10]; omega), if_neg (nI_in (by omega) (by decide)), nI_clamp (by omega), e23]
  unfold dN
  rw [e_X8_doingNow, b_X8_doingNow_0, ti, q_bi_s]
  by_cases c : 0 < (M.1 67 f).toInt
  · rw [if_pos c, if_pos (by rw [Int32.le_iff_toInt_le, qv_0]; omega), es]
  · rw [if_neg c, if_neg (by rw [Int32.le_iff_toInt_le, qv_0]; omega), hT.1, k_doing (Or.inl rfl) (Or.inr (Or.inr (Or.inl rfl))) hT (Nat.le_refl m) (by omega) (by rw [e6]; exact j4 f hf), q_bi_s, e6]
    congr 4
    exact sgn_congr (j5 _ (by omega)) (j5 _ (by omega)) (j5 _ (by omega)) (j5 _ (by omega)) (j5 _ (by omega)) (fun _ _ => rfl)
theorem k9_signOfD {m f : Nat} {M' : QM} (hF : JF n M) (hf : f < n) (d1 : m ≤ 300) (e63 : ∀ j, j ≤ m → M'.1 63 j = hB M j) (eR : RN M' = RN M) : qK sl sx (d + 2) 192 [.ref 48, .ref 63, .int (nI f), .int (nI m)] M' = some (some (.int (sgn (RN M) f m (hB M))), M') := by
  obtain ⟨j1, j2, j3, j4, j5, _⟩ := hF
  have := k9_signOf (sl := sl) (sx := sx) (d := d) (a := 63) (M := M') (Or.inr (Or.inr rfl)) (j := f) d1 e63 (by omega) (by
    rw [eR]
    have := j4 f hf
    unfold Rg at this ⊢
    rw [← j5 (5 * f) (by omega), ← j5 (5 * f + 1) (by omega), ← j5 (5 * f + 2) (by omega), ← j5 (5 * f + 3) (by omega), ← j5 (5 * f + 4) (by omega)]
    exact this)
  rw [eR] at this
  exact this
theorem p_tell (x y : Int32) : QPi sl sx JA 109 232 [.int x, .int y] := by
  intro M hJ
  obtain ⟨n, b, hF, hT, hL, hC, hD, hK, hS, hH⟩ := id hJ
  obtain ⟨m, d1, d2, d3, d4, d5, d6, d7, d8, d9⟩ := hD
  have n10' := hF.1
  have c1 : qK sl sx 999 16 [.ref 5, .int x] M = some (some (.int (if 0 ≤ x.toInt ∧ x.toInt < (n : Int) then 1 else 0)), M) := by
    have := k_isFarm (sl := sl) (sx := sx) (d := 998) (f := 5) (M := M) (x := x) (Or.inl rfl)
    rw [hF.2.1, nI_toInt (by omega)] at this
    exact this
  have r1 : ∀ M' : QM, M'.1 48 0 = nI n → qK sl sx 999 152 [.ref 48, .int x] M' = some (some (.int (if 0 ≤ x.toInt ∧ x.toInt < (n : Int) then 1 else 0)), M') := by
    intro M' e
    have := k9_isFarm (sl := sl) (sx := sx) (d := 998) (M := M') (x := x)
    rw [e, nI_toInt (by omega)] at this
    exact this
  have hm : ∀ M' : QM, qK sl sx 999 126 [.int y, .int 3] M' = some (some (.int (if rg y 3 then 1 else 0)), M') := fun M' => k_within
  have hm9 : ∀ M' : QM, qK sl sx 999 151 [.ref 48, .int y, .int 0, .int 3] M' = some (some (.int (if rg y 3 then 1 else 0)), M') := fun M' => k9_isIn
  by_cases q1 : 0 ≤ x.toInt ∧ x.toInt < (n : Int)
  rotate_left
  · refine ⟨-1, M, M, ?_, ?_, hJ⟩
    · rw [e_X8_tell, b_X8_tell_0, c1, if_neg q1, q_bi_s, if_pos rfl]
    · rw [e_X9_tell, b_X9_tell_0, r1 M hF.2.2.1, if_neg q1, q_bi_s, if_pos rfl]
  by_cases q2 : rg y 3
  rotate_left
  · refine ⟨-1, M, M, ?_, ?_, hJ⟩
    · rw [e_X8_tell, b_X8_tell_0, c1, if_pos q1, q_bi_s, if_neg n10, hm, if_neg q2, q_bi_s, if_pos rfl]
    · rw [e_X9_tell, b_X9_tell_0, r1 M hF.2.2.1, if_pos q1, q_bi_s, if_neg n10, hm9, if_neg q2, q_bi_s, if_pos rfl]
  have ex : x = nI x.toInt.toNat := q_ofN q1.1
  have hf : x.toInt.toNat < n := by omega
  obtain ⟨M1, a1, a2, a3⟩ := k_beginDeed (sl := sl) (sx := sx) (d := 996) hF d1 d2 d3 d4
  have dn := k_doingNow (sl := sl) (sx := sx) (d := 996) hF hf d1 d5 a3 (funext fun k => a2.1 6 k rfl) (fun k => a2.1 23 k rfl)
  generalize x.toInt.toNat = f at *
  subst ex
  have q3 : ¬ (nI f < 0 ∨ 10 ≤ (nI f).toNatClampNeg) := nI_in (by omega) (by decide)
  have cl : qK sl sx 1000 109 [.ref 4, .int (nI f), .int y] M = some (some (.int (dN M m f)), (q_up (q_up M1.1 23 f y) 20 4 ((M1.1 20 4) + 1), M1.2)) := by
    rw [e_X8_tell, b_X8_tell_0, c1, if_pos q1, q_bi_s, if_neg n10, hm, if_pos q2, q_bi_s, if_neg n10, a1, q_bv_s, dn, q_bi_s, e_X1_hearTold, b_X1_hearTold_0, if_neg (nI_pos (by omega)), if_neg (show ¬ (10 : Int32) ≤ nI f by rw [Int32.le_iff_toInt_le, nI_toInt (by omega), qv_10]; omega), if_neg q3, q_bv_s, nI_clamp (by omega)]
  have f1 : Fr [20, 21, 22, 23] M (q_up (q_up M1.1 23 f y) 20 4 ((M1.1 20 4) + 1), M1.2) := fr_up rfl (fr_up rfl (fr_mo rfl a2))
  obtain ⟨M2, e2⟩ : ∃ M2, M2 = ((q_up (q_up M1.1 23 f y) 20 4 ((M1.1 20 4) + 1), M1.2) : QM) := ⟨_, rfl⟩
  rw [← e2] at cl f1
  have eR : RN M2 = RN M := by
    funext i
    unfold RN
    rw [f1.1 49 _ rfl, f1.1 50 _ rfl, f1.1 51 _ rfl, f1.1 52 _ rfl, f1.1 53 _ rfl]
  have rf : ∃ M3, qK sl sx 1000 232 [.ref 48, .int (nI f), .int y] M2 = some (some (.int (dN M m f)), (q_up (q_up M3.1 67 f (y + 1)) 48 40 ((M3.1 48 40) + 1), M3.2)) ∧ Fr [63] M2 M3 ∧ ∀ j, 0 < m → M3.1 63 j = M2.1 63 j := by
    rw [e_X9_tell, b_X9_tell_0, r1 M2 ((f1.1 48 0 rfl).trans hF.2.2.1), if_pos q1, q_bi_s, if_neg n10, hm9, if_pos q2, q_bi_s, if_neg n10, f1.1 48 37 rfl, if_neg q3, if_neg q3, if_neg q3, if_neg q3, if_neg q3, nI_clamp (by omega), f1.1 67 f rfl]
    have le0 : (M.1 67 f ≤ 0) ↔ ¬ 0 < (M.1 67 f).toInt := by
      rw [Int32.le_iff_toInt_le, qv_0]
      omega
    unfold dN
    by_cases c0 : M.1 48 37 = 0
    · have m0 : m = 0 := by
        rw [d2] at c0
        exact (nI_eq (by omega) (by decide)).mp c0
      rw [if_pos c0]
      by_cases c : 0 < (M.1 67 f).toInt
      · rw [if_neg (fun q => le0.mp q c), if_pos c]
        refine ⟨(q_up M2.1 63 0 (M2.1 48 2), M2.2), ?_, fr_up rfl fr_rf, fun j hm => absurd hm (by omega)⟩
        dsimp only
        rw [show q_up (q_up M2.1 63 0 (M2.1 48 2)) 67 f (y + 1) = q_up (q_up M2.1 63 0 (M2.1 48 2)) 67 f (y + 1) from rfl, show q_up M2.1 63 0 (M2.1 48 2) 48 40 = M2.1 48 40 from q_up_a _ _ _ _ (by decide)]
      · rw [if_pos (le0.mpr c), if_neg c]
        have sg := k9_signOfD (sl := sl) (sx := sx) (d := 997) (m := m) (M' := (q_up M2.1 63 0 (M2.1 48 2), M2.2)) hF hf d1 (fun j hj => by
          have j0 : j = 0 := by omega
          subst j0
          unfold hB
          rw [if_pos ⟨rfl, c0⟩]
          dsimp only
          rw [q_up_s, f1.1 48 2 rfl]) (by
          rw [← eR]
          funext i
          unfold RN
          dsimp only
          simp (disch := omega) only [q_up_s, q_up_a, q_up_k, q_uc_a, q_uc_s])
        rw [d2, sg, q_bi_s, if_neg q3]
        exact ⟨(q_up M2.1 63 0 (M2.1 48 2), M2.2), rfl, fr_up rfl fr_rf, fun j hm => absurd hm (by omega)⟩
    · rw [if_neg c0]
      by_cases c : 0 < (M.1 67 f).toInt
      · rw [if_neg (fun q => le0.mp q c), if_pos c]
        exact ⟨M2, rfl, fr_rf, fun _ _ => rfl⟩
      · rw [if_pos (le0.mpr c), if_neg c]
        have sg := k9_signOfD (sl := sl) (sx := sx) (d := 997) (m := m) (M' := M2) hF hf d1 (fun j hj => by
          unfold hB
          rw [if_neg (fun q => c0 q.2), f1.1 63 j rfl]) eR
        rw [d2, sg, q_bi_s, if_neg q3]
        exact ⟨M2, rfl, fr_rf, fun _ _ => rfl⟩
  obtain ⟨M3, b1, b2, b3⟩ := rf
  have f3 : Fr [63, 67, 4840] M2 (q_up (q_up M3.1 67 f (y + 1)) 48 40 ((M3.1 48 40) + 1), M3.2) := fr_up rfl (fr_up rfl (fr_mo rfl b2))
  have ff := fr_t2 (l := [20, 21, 22, 23, 63, 67, 4840]) rfl rfl f1 f3
  have ff3 := fr_t2 (l := [20, 21, 22, 23, 63]) rfl rfl f1 b2
  refine ⟨dN M m f, M2, _, cl, b1, n, b, jF_fr rfl ff hF, jT_fr rfl ff hT, jL_fr rfl ff hL, jC_fr rfl ff hC, ⟨m, d1, ?_, ?_, fun hm => ⟨?_, fun j hj => ?_⟩, fun g hg => ?_, ?_, ?_, ?_, ?_⟩, jK_fr rfl ff hK, jS_fr rfl ff hS, jH_fr rfl ff hH⟩
  · rw [ff.1 48 37 rfl]; exact d2
  · rw [f3.1 21 1 rfl, e2]
    dsimp only
    rw [q_up_a _ _ _ _ (by decide), q_up_a _ _ _ _ (by decide)]
    exact a3.1
  · have c0 : ¬ M.1 48 37 = 0 := by rw [d2]; exact nI_ne0 hm (by omega)
    obtain ⟨t1, t2, t3, t4⟩ := a3
    have e63 : ∀ j, M3.1 63 j = M.1 63 j := fun j => (b3 j hm).trans (f1.1 63 j rfl)
    have ehb : ∀ j, hB M j = M.1 63 j := fun j => by
      unfold hB
      rw [if_neg (fun q => c0 q.2)]
    have e1 : ∀ a k, a = 21 ∨ a = 22 → (q_up (q_up M3.1 67 f (y + 1)) 48 40 ((M3.1 48 40) + 1)) a k = M1.1 a k := by
      intro a k ha
      rw [q_up_a _ _ _ _ (by omega), q_up_a _ _ _ _ (by omega)]
      have : M3.1 a k = M2.1 a k := by rcases ha with rfl | rfl <;> exact b2.1 _ k rfl
      rw [this, e2]
      dsimp only
      rw [q_up_a _ _ _ _ (by omega), q_up_a _ _ _ _ (by omega)]
    have e2' : ∀ j, (q_up (q_up M3.1 67 f (y + 1)) 48 40 ((M3.1 48 40) + 1)) 63 j = M.1 63 j := fun j => by
      rw [q_up_a _ _ _ _ (by decide), q_up_a _ _ _ _ (by decide), e63]
    refine ⟨(e1 21 1 (by omega)).trans t1, (e1 21 2 (by omega)).trans ?_, t3, fun j hj => (e1 22 j (by omega)).trans ?_⟩
    · rw [t2]
      congr 1
      exact lr_congr m (fun j _ => (ehb j).trans (e2' j).symm)
    · rw [t4 j hj, ehb]
      exact (e2' j).symm
  · dsimp only
    rw [q_up_a _ _ _ _ (by decide), q_up_a _ _ _ _ (by decide), b3 j hm, f1.1 63 j rfl]
    exact (d4 hm).2 j hj
  · dsimp only
    rw [q_up_a _ _ _ _ (by decide), q_up_a _ _ _ _ (show (23 : Nat) ≠ 48 by decide), q_up_a _ _ _ _ (show (23 : Nat) ≠ 67 by decide), b2.1 23 g rfl, e2]
    dsimp only
    rw [q_up_a _ _ _ _ (show (23 : Nat) ≠ 20 by decide)]
    by_cases k : g = f
    · rw [k, q_up_s, q_up_s]
      have := q2.1
      have := q2.2
      exact ⟨rfl, by omega, by omega⟩
    · rw [q_up_k _ _ _ _ k, q_up_k _ _ _ _ k, ff3.1 67 g rfl, a2.1 23 g rfl]
      exact d5 g hg
  · rw [f3.1 20 2 rfl, ff.1 48 38 rfl, ← d6, e2]
    dsimp only
    simp (disch := omega) only [q_up_s, q_up_a, q_up_k, q_uc_a, q_uc_s]
    exact a2.1 20 2 rfl
  · rw [f3.1 20 3 rfl, ff.1 48 39 rfl, ← d7, e2]
    dsimp only
    simp (disch := omega) only [q_up_s, q_up_a, q_up_k, q_uc_a, q_uc_s]
    exact a2.1 20 3 rfl
  · rw [f3.1 20 4 rfl, e2]
    dsimp only
    rw [q_up_s, q_up_s, ff3.1 48 40 rfl, ← d8, a2.1 20 4 rfl]
  · rw [f3.1 20 5 rfl, ff.1 48 41 rfl, ← d9, e2]
    dsimp only
    simp (disch := omega) only [q_up_s, q_up_a, q_up_k, q_uc_a, q_uc_s]
    exact a2.1 20 5 rfl
end PASS
