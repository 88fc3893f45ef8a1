/-! PAIRS: tell, pass (wip/whole/f) -/
section PASS
variable {sl : Nat} {sx : Nat → Int32} {d n s : Nat} {M : QM} {x y z : Int32}
/-- the deed's strokes as the reference has them when BEGINS is rung in minute 0 -/
def hB (M : QM) : Nat → Int32 := fun j => if j = 0 ∧ M.1 48 37 = 0 then M.1 48 2 else M.1 63 j
theorem jd_hR (hF : JF n M) {m : Nat} (d2 : M.1 48 37 = nI m) (d1 : m ≤ 300) (d4 : 0 < m → TW M 21 m (M.1 63) ∧ ∀ j, j ≤ m → q_R3 (M.1 63 j)) : ∀ j, j ≤ m → q_R3 (hB M j) := by
  intro j hj
  obtain ⟨_, _, _, _, _, _, _, j8, _, _, j11, _⟩ := hF
  unfold hB
  by_cases c : j = 0 ∧ M.1 48 37 = 0
  · rw [if_pos c, ← j8]; exact j11
  · rw [if_neg c]
    have : 0 < m := by
      rcases Nat.eq_zero_or_pos m with q | q
      · subst q
        exact absurd ⟨by omega, d2⟩ c
      · exact q
    exact (d4 this).2 j hj
theorem k_beginDeed {m : Nat} (hF : JF n M) (d1 : m ≤ 300) (d2 : M.1 48 37 = nI m) (d3 : M.1 21 1 = nI m) (d4 : 0 < m → TW M 21 m (M.1 63) ∧ ∀ j, j ≤ m → q_R3 (M.1 63 j)) : ∃ M', qK sl sx (d + 3) 149 [.ref 4] M = some (none, M') ∧ Fr [21, 22] M M' ∧ TW M' 21 m (hB M) := by
  obtain ⟨_, _, _, _, _, _, _, j8, _⟩ := hF
  rw [e_X8_beginDeed, b_X8_beginDeed_0, d3]
  by_cases c : m = 0
  · subst c
    rw [if_pos (show nI 0 = 0 from rfl), k_common6 (Or.inl rfl), q_bi_s, k_begin (Or.inr (Or.inr (Or.inl rfl))), q_bv_s, j8]
    refine ⟨_, rfl, fr_up rfl (fr_up rfl (fr_up rfl fr_rf)), ?_, ?_, Nat.zero_le _, fun j hj => ?_⟩
    · dsimp only
      simp (disch := omega) only [q_up_s, q_up_a, q_up_k, q_uc_a, q_uc_s]
      rfl
    · dsimp only
      simp (disch := omega) only [q_up_s, q_up_a, q_up_k, q_uc_a, q_uc_s]
      rfl
    · have j0 : j = 0 := by omega
      subst j0
      unfold hB
      rw [if_pos ⟨rfl, d2⟩]
      dsimp only
      simp (disch := omega) only [q_up_s, q_up_a, q_up_k, q_uc_a, q_uc_s]
  · have c0 : ¬ nI m = 0 := nI_ne0 (by omega) (by omega)
    rw [if_neg c0]
    have e : ∀ j, hB M j = M.1 63 j := fun j => by
      unfold hB
      rw [if_neg]
      rintro ⟨_, q⟩
      rw [d2] at q
      exact c0 q
    obtain ⟨t1, t2, t3, t4⟩ := (d4 (by omega)).1
    exact ⟨M, rfl, fr_rf, t1, by rw [t2, lr_congr m (fun j _ => (e j).symm)], t3, fun j hj => by rw [t4 j hj, e]⟩
/-- what a farm does NOW -/
def dN (M : QM) (m f : Nat) : Int32 := if 0 < (M.1 67 f).toInt then M.1 67 f - 1 else sgn (RN M) f m (hB M)
theorem dn_R {m f : Nat} (hF : JF n M) (hf : f < n) (d5 : ∀ f, f < 10 → M.1 67 f = M.1 23 f + 1 ∧ -1 ≤ (M.1 23 f).toInt ∧ (M.1 23 f).toInt ≤ 3) (hh : ∀ j, j ≤ m → q_R3 (hB M j)) : q_R3 (dN M m f) := by
  obtain ⟨j1, j2, j3, j4, j5, _⟩ := hF
  unfold dN
  obtain ⟨s1, s2, s3⟩ := d5 f (by omega)
  have e : (M.1 67 f).toInt = (M.1 23 f).toInt + 1 := by
    rw [s1, tI_add (by rw [qv_1]; omega) (by rw [qv_1]; omega), qv_1]
  by_cases c : 0 < (M.1 67 f).toInt
  · rw [if_pos c]
    have e2 : (M.1 67 f - 1).toInt = (M.1 23 f).toInt := by
      rw [tI_sub (by rw [qv_1]; omega) (by rw [qv_1]; omega), qv_1]
      omega
    unfold q_R3
    rw [e2]
    omega
  · rw [if_neg c]
    refine sgn_R ?_ hh
    have := j4 f hf
    unfold Rg at this ⊢
    rw [← j5 (5 * f) (by omega), ← j5 (5 * f + 1) (by omega), ← j5 (5 * f + 2) (by omega), ← j5 (5 * f + 3) (by omega), ← j5 (5 * f + 4) (by omega)]
    exact this
theorem k_doingNow {m f : Nat} {M' : QM} (hF : JF n M) (hf : f < n) (d1 : m ≤ 300) (d5 : ∀ f, f < 10 → M.1 67 f = M.1 23 f + 1 ∧ -1 ≤ (M.1 23 f).toInt ∧ (M.1 23 f).toInt ≤ 3) (hT : TW M' 21 m (hB M)) (e6 : M'.1 6 = M.1 6) (e23 : ∀ f, M'.1 23 f = M.1 23 f) : qK sl sx (d + 3) 148 [.ref 4, .int (nI f)] M' = some (some (.int (dN M m f)), M') := by
  obtain ⟨j1, j2, j3, j4, j5, _⟩ := hF
  obtain ⟨s1, s2, s3⟩ := d5 f (by omega)
  have e : (M.1 67 f).toInt = (M.1 23 f).toInt + 1 := by
    rw [s1, tI_add (by rw [qv_1]; omega) (by rw [qv_1]; omega), qv_1]
  have es : M.1 67 f - 1 = M.1 23 f := by
    rw [s1, Int32.add_sub_cancel]
  have ti : qK sl sx (d + 2) 9 [.ref 20, .int (nI f)] M' = some (some (.int (M.1 23 f)), M') := by
    rw [e_X1_toldTo, b_X1_toldTo_0, if_neg (nI_pos (by omega)), if_neg (show ¬ (10 : Int32) ≤ nI f by rw [Int32.le_iff_toInt_le, nI_toInt (by omega), qv_10]; omega), if_neg (nI_in (by omega) (by decide)), nI_clamp (by omega), e23]
  unfold dN
  rw [e_X8_doingNow, b_X8_doingNow_0, ti, q_bi_s]
  by_cases c : 0 < (M.1 67 f).toInt
  · rw [if_pos c, if_pos (by rw [Int32.le_iff_toInt_le, qv_0]; omega), es]
  · rw [if_neg c, if_neg (by rw [Int32.le_iff_toInt_le, qv_0]; omega), hT.1, k_doing (Or.inl rfl) (Or.inr (Or.inr (Or.inl rfl))) hT (Nat.le_refl m) (by omega) (by rw [e6]; exact j4 f hf), q_bi_s, e6]
    congr 4
    exact sgn_congr (j5 _ (by omega)) (j5 _ (by omega)) (j5 _ (by omega)) (j5 _ (by omega)) (j5 _ (by omega)) (fun _ _ => rfl)
theorem k9_signOfD {m f : Nat} {M' : QM} (hF : JF n M) (hf : f < n) (d1 : m ≤ 300) (e63 : ∀ j, j ≤ m → M'.1 63 j = hB M j) (eR : RN M' = RN M) : qK sl sx (d + 2) 192 [.ref 48, .ref 63, .int (nI f), .int (nI m)] M' = some (some (.int (sgn (RN M) f m (hB M))), M') := by
  obtain ⟨j1, j2, j3, j4, j5, _⟩ := hF
  have := k9_signOf (sl := sl) (sx := sx) (d := d) (a := 63) (M := M') (Or.inr (Or.inr rfl)) (j := f) d1 e63 (by omega) (by
    rw [eR]
    have := j4 f hf
    unfold Rg at this ⊢
    rw [← j5 (5 * f) (by omega), ← j5 (5 * f + 1) (by omega), ← j5 (5 * f + 2) (by omega), ← j5 (5 * f + 3) (by omega), ← j5 (5 * f + 4) (by omega)]
    exact this)
  rw [eR] at this
  exact this
theorem p_tell (x y : Int32) : QPi sl sx JA 109 232 [.int x, .int y] := by
  intro M hJ
  obtain ⟨n, b, hF, hT, hL, hC, hD, hK, hS, hH⟩ := id hJ
  obtain ⟨m, d1, d2, d3, d4, d5, d6, d7, d8, d9⟩ := hD
  have n10' := hF.1
  have c1 : qK sl sx 999 16 [.ref 5, .int x] M = some (some (.int (if 0 ≤ x.toInt ∧ x.toInt < (n : Int) then 1 else 0)), M) := by
    have := k_isFarm (sl := sl) (sx := sx) (d := 998) (f := 5) (M := M) (x := x) (Or.inl rfl)
    rw [hF.2.1, nI_toInt (by omega)] at this
    exact this
  have r1 : ∀ M' : QM, M'.1 48 0 = nI n → qK sl sx 999 152 [.ref 48, .int x] M' = some (some (.int (if 0 ≤ x.toInt ∧ x.toInt < (n : Int) then 1 else 0)), M') := by
    intro M' e
    have := k9_isFarm (sl := sl) (sx := sx) (d := 998) (M := M') (x := x)
    rw [e, nI_toInt (by omega)] at this
    exact this
  have hm : ∀ M' : QM, qK sl sx 999 126 [.int y, .int 3] M' = some (some (.int (if rg y 3 then 1 else 0)), M') := fun M' => k_within
  have hm9 : ∀ M' : QM, qK sl sx 999 151 [.ref 48, .int y, .int 0, .int 3] M' = some (some (.int (if rg y 3 then 1 else 0)), M') := fun M' => k9_isIn
  by_cases q1 : 0 ≤ x.toInt ∧ x.toInt < (n : Int)
  rotate_left
  · refine ⟨-1, M, M, ?_, ?_, hJ⟩
    · rw [e_X8_tell, b_X8_tell_0, c1, if_neg q1, q_bi_s, if_pos rfl]
    · rw [e_X9_tell, b_X9_tell_0, r1 M hF.2.2.1, if_neg q1, q_bi_s, if_pos rfl]
  by_cases q2 : rg y 3
  rotate_left
  · refine ⟨-1, M, M, ?_, ?_, hJ⟩
    · rw [e_X8_tell, b_X8_tell_0, c1, if_pos q1, q_bi_s, if_neg n10, hm, if_neg q2, q_bi_s, if_pos rfl]
    · rw [e_X9_tell, b_X9_tell_0, r1 M hF.2.2.1, if_pos q1, q_bi_s, if_neg n10, hm9, if_neg q2, q_bi_s, if_pos rfl]
  have ex : x = nI x.toInt.toNat := q_ofN q1.1
  have hf : x.toInt.toNat < n := by omega
  obtain ⟨M1, a1, a2, a3⟩ := k_beginDeed (sl := sl) (sx := sx) (d := 996) hF d1 d2 d3 d4
  have dn := k_doingNow (sl := sl) (sx := sx) (d := 996) hF hf d1 d5 a3 (funext fun k => a2.1 6 k rfl) (fun k => a2.1 23 k rfl)
  generalize x.toInt.toNat = f at *
  subst ex
  have q3 : ¬ (nI f < 0 ∨ 10 ≤ (nI f).toNatClampNeg) := nI_in (by omega) (by decide)
  have q3c : ¬ (nI f < 0 ∨ 10 ≤ f) := by
    rw [nI_clamp (by omega)] at q3
    exact q3
  have cl : qK sl sx 1000 109 [.ref 4, .int (nI f), .int y] M = some (some (.int (dN M m f)), (q_up (q_up M1.1 23 f y) 20 4 ((M1.1 20 4) + 1), M1.2)) := by
    rw [e_X8_tell, b_X8_tell_0, c1, if_pos q1, q_bi_s, if_neg n10, hm, if_pos q2, q_bi_s, if_neg n10, a1, q_bv_s, dn, q_bi_s, e_X1_hearTold, b_X1_hearTold_0, if_neg (nI_pos (by omega)), if_neg (show ¬ (10 : Int32) ≤ nI f by rw [Int32.le_iff_toInt_le, nI_toInt (by omega), qv_10]; omega), if_neg q3, q_bv_s, nI_clamp (by omega)]
  have f1 : Fr [20, 21, 22, 23] M (q_up (q_up M1.1 23 f y) 20 4 ((M1.1 20 4) + 1), M1.2) := fr_up rfl (fr_up rfl (fr_mo rfl a2))
  obtain ⟨M2, e2⟩ : ∃ M2, M2 = ((q_up (q_up M1.1 23 f y) 20 4 ((M1.1 20 4) + 1), M1.2) : QM) := ⟨_, rfl⟩
  rw [← e2] at cl f1
  have eR : RN M2 = RN M := by
    funext i
    unfold RN
    rw [f1.1 49 _ rfl, f1.1 50 _ rfl, f1.1 51 _ rfl, f1.1 52 _ rfl, f1.1 53 _ rfl]
  have rf : ∃ M3, qK sl sx 1000 232 [.ref 48, .int (nI f), .int y] M2 = some (some (.int (dN M m f)), (q_up (q_up M3.1 67 f (y + 1)) 48 40 ((M3.1 48 40) + 1), M3.2)) ∧ Fr [63] M2 M3 ∧ ∀ j, 0 < m → M3.1 63 j = M2.1 63 j := by
    rw [e_X9_tell, b_X9_tell_0, r1 M2 ((f1.1 48 0 rfl).trans hF.2.2.1), if_pos q1, q_bi_s, if_neg n10, hm9, if_pos q2, q_bi_s, if_neg n10, f1.1 48 37 rfl, if_neg q3, if_neg q3, if_neg q3, if_neg q3, if_neg q3, nI_clamp (by omega), f1.1 67 f rfl]
    have le0 : (M.1 67 f ≤ 0) ↔ ¬ 0 < (M.1 67 f).toInt := by
      rw [Int32.le_iff_toInt_le, qv_0]
      omega
    unfold dN
    by_cases c0 : M.1 48 37 = 0
    · have m0 : m = 0 := by
        rw [d2] at c0
        exact (nI_eq (by omega) (by decide)).mp c0
      rw [if_pos c0]
      by_cases c : 0 < (M.1 67 f).toInt
      · rw [if_neg (fun q => le0.mp q c), if_pos c]
        refine ⟨(q_up M2.1 63 0 (M2.1 48 2), M2.2), ?_, fr_up rfl fr_rf, fun j hm => absurd hm (by omega)⟩
        dsimp only
        rw [show q_up (q_up M2.1 63 0 (M2.1 48 2)) 67 f (y + 1) = q_up (q_up M2.1 63 0 (M2.1 48 2)) 67 f (y + 1) from rfl, show q_up M2.1 63 0 (M2.1 48 2) 48 40 = M2.1 48 40 from q_up_a _ _ _ _ (by decide)]
      · rw [if_pos (le0.mpr c), if_neg c]
        have sg := k9_signOfD (sl := sl) (sx := sx) (d := 997) (m := m) (M' := (q_up M2.1 63 0 (M2.1 48 2), M2.2)) hF hf d1 (fun j hj => by
          have j0 : j = 0 := by omega
          subst j0
          unfold hB
          rw [if_pos ⟨rfl, c0⟩]
          dsimp only
          rw [q_up_s, f1.1 48 2 rfl]) (by
          rw [← eR]
          funext i
          unfold RN
          dsimp only
          simp (disch := omega) only [q_up_s, q_up_a, q_up_k, q_uc_a, q_uc_s])
        rw [d2, sg, q_bi_s, if_neg q3c]
        exact ⟨(q_up M2.1 63 0 (M2.1 48 2), M2.2), rfl, fr_up rfl fr_rf, fun j hm => absurd hm (by omega)⟩
    · rw [if_neg c0]
      by_cases c : 0 < (M.1 67 f).toInt
      · rw [if_neg (fun q => le0.mp q c), if_pos c]
        try rw [if_neg q3c]
        exact ⟨M2, rfl, fr_rf, fun _ _ => rfl⟩
      · rw [if_pos (le0.mpr c), if_neg c]
        have sg := k9_signOfD (sl := sl) (sx := sx) (d := 997) (m := m) (M' := M2) hF hf d1 (fun j hj => by
          unfold hB
          rw [if_neg (fun q => c0 q.2), f1.1 63 j rfl]) eR
        rw [d2, sg, q_bi_s, if_neg q3c]
        exact ⟨M2, rfl, fr_rf, fun _ _ => rfl⟩
  obtain ⟨M3, b1, b2, b3⟩ := rf
  have f3 : Fr [63, 67, 4840] M2 (q_up (q_up M3.1 67 f (y + 1)) 48 40 ((M3.1 48 40) + 1), M3.2) := fr_up rfl (fr_up rfl (fr_mo rfl b2))
  have ff := fr_t2 (l := [20, 21, 22, 23, 63, 67, 4840]) rfl rfl f1 f3
  have ff3 := fr_t2 (l := [20, 21, 22, 23, 63]) rfl rfl f1 b2
  refine ⟨dN M m f, M2, _, cl, b1, n, b, jF_fr rfl ff hF, jT_fr rfl ff hT, jL_fr rfl ff hL, jC_fr rfl ff hC, ⟨m, d1, ?_, ?_, fun hm => ⟨?_, fun j hj => ?_⟩, fun g hg => ?_, ?_, ?_, ?_, ?_⟩, jK_fr rfl ff hK, jS_fr rfl ff hS, jH_fr rfl ff hH⟩
  · rw [ff.1 48 37 rfl]; exact d2
  · rw [f3.1 21 1 rfl, e2]
    dsimp only
    rw [q_up_a _ _ _ _ (by decide), q_up_a _ _ _ _ (by decide)]
    exact a3.1
  · have c0 : ¬ M.1 48 37 = 0 := by rw [d2]; exact nI_ne0 hm (by omega)
    obtain ⟨t1, t2, t3, t4⟩ := a3
    have e63 : ∀ j, M3.1 63 j = M.1 63 j := fun j => (b3 j hm).trans (f1.1 63 j rfl)
    have ehb : ∀ j, hB M j = M.1 63 j := fun j => by
      unfold hB
      rw [if_neg (fun q => c0 q.2)]
    have e1 : ∀ a k, a = 21 ∨ a = 22 → (q_up (q_up M3.1 67 f (y + 1)) 48 40 ((M3.1 48 40) + 1)) a k = M1.1 a k := by
      intro a k ha
      rw [q_up_a _ _ _ _ (by omega), q_up_a _ _ _ _ (by omega)]
      have : M3.1 a k = M2.1 a k := by rcases ha with rfl | rfl <;> exact b2.1 _ k rfl
      rw [this, e2]
      dsimp only
      rw [q_up_a _ _ _ _ (by omega), q_up_a _ _ _ _ (by omega)]
    have e2' : ∀ j, (q_up (q_up M3.1 67 f (y + 1)) 48 40 ((M3.1 48 40) + 1)) 63 j = M.1 63 j := fun j => by
      rw [q_up_a _ _ _ _ (by decide), q_up_a _ _ _ _ (by decide), e63]
    refine ⟨(e1 21 1 (by omega)).trans t1, (e1 21 2 (by omega)).trans ?_, t3, fun j hj => (e1 22 j (by omega)).trans ?_⟩
    · rw [t2]
      congr 1
      exact lr_congr m (fun j _ => (ehb j).trans (e2' j).symm)
    · rw [t4 j hj, ehb]
      exact (e2' j).symm
  · dsimp only
    rw [q_up_a _ _ _ _ (by decide), q_up_a _ _ _ _ (by decide), b3 j hm, f1.1 63 j rfl]
    exact (d4 hm).2 j hj
  · dsimp only
    rw [q_up_a _ _ _ _ (by decide), q_up_a _ _ _ _ (show (23 : Nat) ≠ 48 by decide), q_up_a _ _ _ _ (show (23 : Nat) ≠ 67 by decide), b2.1 23 g rfl, e2]
    dsimp only
    rw [q_up_a _ _ _ _ (show (23 : Nat) ≠ 20 by decide)]
    by_cases k : g = f
    · rw [k, q_up_s, q_up_s]
      have := q2.1
      have := q2.2
      exact ⟨rfl, by omega, by omega⟩
    · rw [q_up_k _ _ _ _ k, q_up_k _ _ _ _ k, ff3.1 67 g rfl, a2.1 23 g rfl]
      exact d5 g hg
  · rw [f3.1 20 2 rfl, ff.1 48 38 rfl, ← d6, e2]
    dsimp only
    simp (disch := omega) only [q_up_s, q_up_a, q_up_k, q_uc_a, q_uc_s]
    exact a2.1 20 2 rfl
  · rw [f3.1 20 3 rfl, ff.1 48 39 rfl, ← d7, e2]
    dsimp only
    simp (disch := omega) only [q_up_s, q_up_a, q_up_k, q_uc_a, q_uc_s]
    exact a2.1 20 3 rfl
  · rw [f3.1 20 4 rfl, e2]
    dsimp only
    rw [q_up_s, q_up_s, ff3.1 48 40 rfl, ← d8, a2.1 20 4 rfl]
  · rw [f3.1 20 5 rfl, ff.1 48 41 rfl, ← d9, e2]
    dsimp only
    simp (disch := omega) only [q_up_s, q_up_a, q_up_k, q_uc_a, q_uc_s]
    exact a2.1 20 5 rfl
/-- the stroke of the next minute in deed -/
def sV (M : QM) (n m : Nat) : Int32 := ST M (cn (dN M m) (nI 1) n) (cn (dN M m) (nI 2) n) (cn (dN M m) (nI 3) n) (hB M m) (lr (hB M) m) (m + 1)
theorem k_ringOn {m : Nat} {h h' : Nat → Int32} (hT : TW M 21 m h) (hm : m < 300) (e1 : ∀ j, j ≤ m → h' j = h j) (e2 : h' (m + 1) = x) : ∃ M', qK sl sx (d + 3) 11 [.ref 20, .int x] M = some (none, M') ∧ Fr [20, 21, 22, 23] M M' ∧ TW M' 21 (m + 1) h' ∧ (∀ f, f < 10 → M'.1 23 f = -1) ∧ M'.1 20 2 = M.1 20 2 + 1 ∧ M'.1 20 3 = M.1 20 3 + (if x = 0 then 0 else 1) ∧ M'.1 20 4 = M.1 20 4 ∧ M'.1 20 5 = M.1 20 5 := by
  obtain ⟨M1, a1, a2, a3⟩ := k_addT (sl := sl) (sx := sx) (d := d) (t := 21) (Or.inr (Or.inr (Or.inl rfl))) hT hm e1 e2
  obtain ⟨M2, b1, b2, b3⟩ := k_forgetTold (sl := sl) (sx := sx) (d := d + 1) (M := M1)
  have f2 : Fr [21, 22, 23] M M2 := fr_t2 rfl rfl a2 b2
  have fin : ∀ v : Int32, ∃ M', (some (none, ((q_up (q_up M2.1 20 2 ((M2.1 20 2) + 1)) 20 3 ((M2.1 20 3) + v)), M2.2)) : Option (Option Value × QM)) = some (none, M') ∧ Fr [20, 21, 22, 23] M M' ∧ TW M' 21 (m + 1) h' ∧ (∀ f, f < 10 → M'.1 23 f = -1) ∧ M'.1 20 2 = M.1 20 2 + 1 ∧ M'.1 20 3 = M.1 20 3 + v ∧ M'.1 20 4 = M.1 20 4 ∧ M'.1 20 5 = M.1 20 5 := by
    intro v
    refine ⟨_, rfl, fr_up rfl (fr_up rfl (fr_mo rfl f2)), tw_fr (fun k => ?_) (fun k => ?_) a3, fun f hf => ?_, ?_, ?_, ?_, ?_⟩
    · dsimp only
      simp (disch := omega) only [q_up_s, q_up_a, q_up_k, q_uc_a, q_uc_s]
      exact b2.1 21 k rfl
    · dsimp only
      simp (disch := omega) only [q_up_s, q_up_a, q_up_k, q_uc_a, q_uc_s]
      exact b2.1 22 k rfl
    · dsimp only
      simp (disch := omega) only [q_up_s, q_up_a, q_up_k, q_uc_a, q_uc_s]
      exact b3 f hf
    · dsimp only
      simp (disch := omega) only [q_up_s, q_up_a, q_up_k, q_uc_a, q_uc_s]
      rw [f2.1 20 2 rfl]
    · dsimp only
      simp (disch := omega) only [q_up_s, q_up_a, q_up_k, q_uc_a, q_uc_s]
      rw [f2.1 20 3 rfl]
    · dsimp only
      simp (disch := omega) only [q_up_s, q_up_a, q_up_k, q_uc_a, q_uc_s]
      exact f2.1 20 4 rfl
    · dsimp only
      simp (disch := omega) only [q_up_s, q_up_a, q_up_k, q_uc_a, q_uc_s]
      exact f2.1 20 5 rfl
  rw [e_X1_ringOn, b_X1_ringOn_0, a1, q_bv_s, b1, q_bv_s]
  by_cases c : x = 0
  · rw [if_pos c, if_pos c]
    exact fin 0
  · rw [if_neg c, if_neg c]
    exact fin 1
theorem k_pass {m : Nat} (hF : JF n M) (hm : m < 300) (d2 : M.1 48 37 = nI m) (d3 : M.1 21 1 = nI m) (d4 : 0 < m → TW M 21 m (M.1 63) ∧ ∀ j, j ≤ m → q_R3 (M.1 63 j)) (d5 : ∀ f, f < 10 → M.1 67 f = M.1 23 f + 1 ∧ -1 ≤ (M.1 23 f).toInt ∧ (M.1 23 f).toInt ≤ 3) {h' : Nat → Int32} (e1 : ∀ j, j ≤ m → h' j = hB M j) (e2 : h' (m + 1) = sV M n m) : ∃ M', qK sl sx (d + 7) 108 [.ref 4] M = some (some (.int (sV M n m)), M') ∧ Fr [13, 1703, 19, 20, 21, 22, 23] M M' ∧ TW M' 21 (m + 1) h' ∧ (∀ f, f < 10 → M'.1 23 f = -1) ∧ M'.1 20 2 = M.1 20 2 + 1 ∧ M'.1 20 3 = M.1 20 3 + (if sV M n m = 0 then 0 else 1) ∧ M'.1 20 4 = M.1 20 4 ∧ M'.1 20 5 = M.1 20 5 := by
  obtain ⟨M1, a1, a2, a3⟩ := k_beginDeed (sl := sl) (sx := sx) (d := d + 3) hF (by omega) d2 d3 d4
  obtain ⟨M2, b1, b2, b3⟩ := k_clearSigns (sl := sl) (sx := sx) (d := d + 5) (M := M1)
  have hh := jd_hR hF d2 (by omega) d4
  have n10' := hF.1
  rw [e_X8_pass, b_X8_pass_0, d3, if_pos (show nI m < 300 by rw [Int32.lt_iff_toInt_lt, nI_toInt (by omega), qv_300]; omega), a1, q_bv_s, b1, q_bv_s]
  refine q_lu (fun k i (_ : Unit) M' => qF sl sx (d + 6) 108 k 29 [some (.ref 4), some (.int (nI i))] [] M') n (fun i _ M' => Fr [13] M1 M' ∧ ∀ v, v < 4 → M'.1 13 v = nI (cn (dN M m) (nI v) i)) (fun o => ∃ M', o = some (some (.int (sV M n m)), M') ∧ Fr [13, 1703, 19, 20, 21, 22, 23] M M' ∧ TW M' 21 (m + 1) h' ∧ (∀ f, f < 10 → M'.1 23 f = -1) ∧ M'.1 20 2 = M.1 20 2 + 1 ∧ M'.1 20 3 = M.1 20 3 + (if sV M n m = 0 then 0 else 1) ∧ M'.1 20 4 = M.1 20 4 ∧ M'.1 20 5 = M.1 20 5) (fun k i _ M' hi hI => ?_) (fun k _ M' hI => ?_) (i := 0) (s := ()) (Nat.zero_le _) (q_n1b (by omega)) ⟨b2, fun v hv => by rw [b3 v hv]; rfl⟩
  · right
    have ff : Fr [13, 21, 22] M M' := fr_t2 rfl rfl a2 hI.1
    have hT' : TW M' 21 m (hB M) := tw_fr (fun k => hI.1.1 21 k rfl) (fun k => hI.1.1 22 k rfl) a3
    have kd := k_doingNow (sl := sl) (sx := sx) (d := d + 3) hF hi (by omega) d5 hT' (funext fun k => ff.1 6 k rfl) (fun k => ff.1 23 k rfl)
    have hs := dn_R hF hi d5 hh
    have ks := k_addSign (sl := sl) (sx := sx) (d := d + 5) (M := M') (y := 1) hs
    refine ⟨(), (q_up M'.1 13 (dN M m i).toInt.toNat (M'.1 13 (dN M m i).toInt.toNat + 1), M'.2), ⟨fr_up rfl hI.1, fun v hv => ?_⟩, ?_⟩
    rotate_left
    · rw [b_X8_pass_29, ff.1 5 1 rfl, hF.2.1, if_neg (nI_ge hi (by omega)), kd, q_bi_s, ks, q_bv_s, nI_1]
    · dsimp only
      rw [cn]
      by_cases q : v = (dN M m i).toInt.toNat
      · rw [← q, q_up_s, hI.2 v hv, nI_1, if_pos]
        rw [q]
        exact q_ofN hs.1
      · rw [q_up_k _ _ _ _ q, hI.2 v hv, if_neg]
        · rfl
        · intro e
          apply q
          rw [e, nI_toInt (by omega), Int.toNat_natCast]
  · have ff : Fr [13, 21, 22] M M' := fr_t2 rfl rfl a2 hI.1
    have hT' : TW M' 21 m (hB M) := tw_fr (fun k => hI.1.1 21 k rfl) (fun k => hI.1.1 22 k rfl) a3
    obtain ⟨M3, c1, c2⟩ := k_nextStroke (sl := sl) (sx := sx) (d := d + 1) (f := 5) (t := 21) (M := M') (Or.inl rfl) (Or.inr (Or.inr (Or.inl rfl))) hT' (c := fun v => cn (dN M m) (nI v) n) hI.2 (fun v => by have := cn_le (dN M m) (nI v) n; omega) rfl
    have es : ST M' = ST M := st_fr (ff.1 17 1 rfl) (funext fun k => ff.1 18 k rfl) (ff.1 6 50 rfl)
    rw [es] at c1
    have hT3 : TW M3 21 m (hB M) := tw_fr (fun k => c2.1 21 k rfl) (fun k => c2.1 22 k rfl) hT'
    obtain ⟨M4, g1, g2, g3, g4, g5, g6, g7, g8⟩ := k_ringOn (sl := sl) (sx := sx) (d := d + 3) hT3 hm e1 e2
    have f3 := fr_t2 (l := [13, 21, 22, 1703, 19]) rfl rfl ff c2
    refine ⟨M4, ?_, fr_t2 rfl rfl f3 g2, g3, g4, ?_, ?_, ?_, ?_⟩
    · rw [b_X8_pass_29, ff.1 5 1 rfl, hF.2.1, if_pos (Int32.le_refl _)]
      show q_bi (qK sl sx (d + 1 + 5) 133 [.ref 4, .ref 5, .ref 21] M') _ = _
      rw [c1, q_bi_s]
      show q_bv (qK sl sx (d + 3 + 3) 11 [.ref 20, .int (sV M n m)] M3) _ = _
      rw [g1, q_bv_s]
      rfl
    · rw [g5, f3.1 20 2 rfl]
    · rw [g6, f3.1 20 3 rfl]
    · rw [g7, f3.1 20 4 rfl]
    · rw [g8, f3.1 20 5 rfl]
theorem k9_passL : ∀ (k i N : Nat) (M : QM) (v : Int32) {m : Nat}, k + i = 10 → k < N → M.1 48 37 = nI m → m ≤ 300 → M.1 63 m = v → ∃ M', qF sl sx (d + 1) 231 N 141 [some (.ref 48), some (.int (nI i))] [] M = some (some (.int v), M') ∧ Fr [67, 4838, 4839] M M' ∧ (∀ f, f < 10 → M'.1 67 f = if i ≤ f then 0 else M.1 67 f) ∧ M'.1 48 38 = M.1 48 38 + 1 ∧ M'.1 48 39 = M.1 48 39 + (if v = 0 then 0 else 1) := by
  intro k
  induction k with
  | zero =>
    intro i N M v m hi hN h37 hm hv
    obtain ⟨N, rfl⟩ : ∃ N', N = N' + 1 := ⟨N - 1, by omega⟩
    have q1 : ¬ (nI m < 0 ∨ 301 ≤ (nI m).toNatClampNeg) := nI_in (by omega) (by decide)
    have e37 : q_up M.1 48 38 ((M.1 48 38) + 1) 48 37 = nI m := by rw [q_up_k _ _ _ _ (by decide), h37]
    have e63 : q_up M.1 48 38 ((M.1 48 38) + 1) 63 m = v := by rw [q_up_a _ _ _ _ (by decide), hv]
    rw [b_X9_pass_141, if_pos (show (10 : Int32) ≤ nI i by rw [Int32.le_iff_toInt_le, nI_toInt (by omega), qv_10]; omega), h37, if_neg q1, nI_clamp (by omega), hv, k9_one, k9_one, q_bi_s, q_bi_s]
    have q1n : ¬ (nI m < 0 ∨ 301 ≤ m) := by
      rw [nI_clamp (by omega)] at q1
      exact q1
    simp only [e37, if_neg q1, nI_clamp (show m < 2 ^ 31 by omega), if_neg q1n, e63, if_neg n10, if_true]
    have fin : ∀ w : Int32, ∃ M', (some (some (.int v), ((q_up (q_up M.1 48 38 ((M.1 48 38) + 1)) 48 39 ((M.1 48 39) + w)), M.2)) : Option (Option Value × QM)) = some (some (.int v), M') ∧ Fr [67, 4838, 4839] M M' ∧ (∀ f, f < 10 → M'.1 67 f = if i ≤ f then 0 else M.1 67 f) ∧ M'.1 48 38 = M.1 48 38 + 1 ∧ M'.1 48 39 = M.1 48 39 + w := by
      intro w
      refine ⟨_, rfl, fr_up rfl (fr_up rfl fr_rf), fun f hf => ?_, ?_, ?_⟩
      · rw [if_neg (by omega)]
        dsimp only
        simp (disch := omega) only [q_up_s, q_up_a, q_up_k, q_uc_a, q_uc_s]
      · dsimp only
        simp (disch := omega) only [q_up_s, q_up_a, q_up_k, q_uc_a, q_uc_s]
      · dsimp only
        simp (disch := omega) only [q_up_s, q_up_a, q_up_k, q_uc_a, q_uc_s]
    by_cases c : v = 0
    · rw [if_pos c, if_pos c]
      exact fin 0
    · rw [if_neg c, if_neg c]
      exact fin 1
  | succ k ih =>
    intro i N M v m hi hN h37 hm hv
    obtain ⟨N, rfl⟩ : ∃ N', N = N' + 1 := ⟨N - 1, by omega⟩
    obtain ⟨M', g1, g2, g3, g4, g5⟩ := ih (i + 1) N (q_up M.1 67 i 0, M.2) v (m := m) (by omega) (by omega) (by dsimp only; rw [q_up_a _ _ _ _ (by decide)]; exact h37) hm (by dsimp only; rw [q_up_a _ _ _ _ (by decide)]; exact hv)
    dsimp only at g4 g5
    rw [q_up_a _ _ _ _ (by decide)] at g4 g5
    refine ⟨M', ?_, fr_tr (fr_up rfl fr_rf) g2, fun f hf => ?_, g4, g5⟩
    · rw [b_X9_pass_141, if_neg (show ¬ (10 : Int32) ≤ nI i by rw [Int32.le_iff_toInt_le, nI_toInt (by omega), qv_10]; omega), if_neg (nI_in (by omega) (by decide)), nI_1, nI_clamp (by omega)]
      exact g1
    · rw [g3 f hf]
      dsimp only
      by_cases q : f = i
      · rw [q, q_up_s, if_neg (by omega), if_pos (Nat.le_refl _)]
      · rw [q_up_k _ _ _ _ q]
        by_cases w : i + 1 ≤ f
        · rw [if_pos w, if_pos (by omega)]
        · rw [if_neg w, if_neg (by omega)]
/-- the reference's minute, from its counting on -/
theorem k9_passM {m : Nat} {M' : QM} (hF : JF n M) (hJL : JL M) (hm : m < 300) (d2 : M.1 48 37 = nI m) (hh : ∀ j, j ≤ m → q_R3 (hB M j)) (d5 : ∀ f, f < 10 → M.1 67 f = M.1 23 f + 1 ∧ -1 ≤ (M.1 23 f).toInt ∧ (M.1 23 f).toInt ≤ 3) (f1 : Fr [63, 66, 13, 1703, 19, 20, 21, 22, 23] M M') (e63 : ∀ j, j ≤ m → M'.1 63 j = hB M j) {N : Nat} (hN : n + 200 < N) (h66 : ∀ v, v < 4 → M'.1 66 v = 0) : ∃ M2, qF sl sx (d + 202) 231 N 52 [some (.ref 48), some (.int 0)] [] M' = (some (some (.int (sV M n m)), M2)) ∧ Fr [63, 66, 60, 4822, 4837, 67, 4838, 4839] M' M2 ∧ (∀ j, j ≤ m → M2.1 63 j = hB M j) ∧ M2.1 63 (m + 1) = sV M n m ∧ M2.1 48 37 = nI (m + 1) ∧ (∀ f, f < 10 → M2.1 67 f = 0) ∧ M2.1 48 38 = M'.1 48 38 + 1 ∧ M2.1 48 39 = M'.1 48 39 + (if sV M n m = 0 then 0 else 1) := by
  have n10' := hF.1
  have eRN : ∀ M'' : QM, Fr [63, 66, 13, 1703, 19, 20, 21, 22, 23] M M'' → RN M'' = RN M := fun M'' f => by
    funext i
    unfold RN
    rw [f.1 49 _ rfl, f.1 50 _ rfl, f.1 51 _ rfl, f.1 52 _ rfl, f.1 53 _ rfl]
  obtain ⟨N, rfl⟩ : ∃ N', N = N' + 100 := ⟨N - 100, by omega⟩
  refine q_lu (fun k i (_ : Unit) M'' => qF sl sx (d + 202) 231 (k + 100) 52 [some (.ref 48), some (.int (nI i))] [] M'') n (fun i _ M'' => Fr [66] M' M'' ∧ ∀ v, v < 4 → M''.1 66 v = nI (cn (dN M m) (nI v) i)) (fun o => ∃ M2, o = some (some (.int (sV M n m)), M2) ∧ Fr [63, 66, 60, 4822, 4837, 67, 4838, 4839] M' M2 ∧ (∀ j, j ≤ m → M2.1 63 j = hB M j) ∧ M2.1 63 (m + 1) = sV M n m ∧ M2.1 48 37 = nI (m + 1) ∧ (∀ f, f < 10 → M2.1 67 f = 0) ∧ M2.1 48 38 = M'.1 48 38 + 1 ∧ M2.1 48 39 = M'.1 48 39 + (if sV M n m = 0 then 0 else 1)) (fun k i _ M'' hi hI => ?_) (fun k _ M'' hI => ?_) (i := 0) (s := ()) (Nat.zero_le _) (by omega) ⟨fr_rf, fun v hv => by rw [h66 v hv]; rfl⟩
  · right
    have ff : Fr [63, 66, 13, 1703, 19, 20, 21, 22, 23] M M'' := fr_t2 rfl rfl f1 hI.1
    have hs := dn_R hF hi d5 hh
    have hv0 : (dN M m i).toInt.toNat < 4 := by have := hs.2; omega
    have q3 : ¬ (nI i < 0 ∨ 10 ≤ (nI i).toNatClampNeg) := nI_in (by omega) (by decide)
    have nv : ¬ (dN M m i < 0 ∨ 4 ≤ (dN M m i).toInt.toNat) := by
      rw [Int32.lt_iff_toInt_lt, qv_0]
      have := hs.1
      omega
    have le0 : (M.1 67 i ≤ 0) ↔ ¬ 0 < (M.1 67 i).toInt := by
      rw [Int32.le_iff_toInt_le, qv_0]
      omega
    refine ⟨(), (q_up M''.1 66 (dN M m i).toInt.toNat (M''.1 66 (dN M m i).toInt.toNat + 1), M''.2), ⟨fr_up rfl hI.1, fun v hv => ?_⟩, ?_⟩
    rotate_left
    · rw [show k + 1 + 100 = k + 100 + 1 by omega, b_X9_pass_52, ff.1 48 0 rfl, hF.2.2.1, if_neg (nI_ge hi (by omega)), if_neg q3, if_neg q3, nI_clamp (by omega), ff.1 67 i rfl, ff.1 48 37 rfl, d2, nI_1]
      by_cases c : 0 < (M.1 67 i).toInt
      · have ed : dN M m i = M.1 67 i - 1 := by unfold dN; rw [if_pos c]
        rw [if_neg (fun q => le0.mp q c), ← ed]
        rw [q_clamp, if_neg nv, if_neg nv]
      · have ed : dN M m i = sgn (RN M) i m (hB M) := by unfold dN; rw [if_neg c]
        have sg := k9_signOfD (sl := sl) (sx := sx) (d := d + 200) (m := m) (M' := M'') hF hi (by omega) (fun j hj => (hI.1.1 63 j rfl).trans (e63 j hj)) (eRN M'' ff)
        rw [← ed] at sg
        rw [if_pos (le0.mpr c), sg, q_bi_s, q_clamp, if_neg nv, if_neg nv]
    · dsimp only
      rw [cn]
      by_cases q : v = (dN M m i).toInt.toNat
      · rw [← q, q_up_s, hI.2 v hv, nI_1, if_pos]
        rw [q]
        exact q_ofN hs.1
      · rw [q_up_k _ _ _ _ q, hI.2 v hv, if_neg]
        · rfl
        · intro e
          apply q
          rw [e, nI_toInt (by omega), Int.toNat_natCast]
  · have ff : Fr [63, 66, 13, 1703, 19, 20, 21, 22, 23] M M'' := fr_t2 rfl rfl f1 hI.1
    have e37 : M''.1 48 37 = nI m := (ff.1 48 37 rfl).trans d2
    obtain ⟨M3, e3⟩ : ∃ M3, M3 = ((q_up M''.1 48 37 (nI (m + 1)), M''.2) : QM) := ⟨_, rfl⟩
    have g3 : Fr [4837] M'' M3 := by rw [e3]; exact fr_up rfl fr_rf
    have f3 : Fr [63, 66, 13, 1703, 19, 20, 21, 22, 23, 4837] M M3 := fr_t2 rfl rfl ff g3
    have hq : M3.1 48 1 = M3.1 6 50 := by
      rw [f3.1 48 1 rfl, f3.1 6 50 rfl]
      exact hF.2.2.2.2.2.2.1.symm
    have jl3 : JL M3 := jL_fr rfl f3 hJL
    obtain ⟨M4, h1, h2⟩ := k9_rungNext (sl := sl) (sx := sx) (d := d + 1) (a := 63) (M := M3) (m := m) (h := hB M) (Or.inr (Or.inr rfl)) hm (fun j hj => (g3.1 63 j rfl).trans ((hI.1.1 63 j rfl).trans (e63 j hj))) (c := fun v => cn (dN M m) (nI v) n) (fun v hv => (g3.1 66 v rfl).trans (hI.2 v hv)) (fun v => by have := cn_le (dN M m) (nI v) n; omega) hq jl3
    have es : ST M3 = ST M := st_fr (f3.1 17 1 rfl) (funext fun k => f3.1 18 k rfl) (f3.1 6 50 rfl)
    rw [es] at h1
    have h1' : qK sl sx (d + 202) 195 [.ref 48, .ref 63, .int (nI (m + 1))] M3 = some (some (.int (sV M n m)), M4) := h1
    have f4 : Fr [66, 4837, 60, 4822] M' M4 := fr_t2 rfl rfl hI.1 (fr_t2 (l := [4837, 60, 4822]) rfl rfl g3 h2)
    have i37 : M4.1 48 37 = nI (m + 1) := by
      rw [h2.1 48 37 rfl, e3]
      exact q_up1 _ _ _ _ _
    obtain ⟨M5, k1, k2, k3, k4, k5⟩ := k9_passL (sl := sl) (sx := sx) (d := d + 201) 10 0 (k + 100) (q_up M4.1 63 (m + 1) (sV M n m), M4.2) (sV M n m) (m := m + 1) rfl (by omega) (by dsimp only; rw [q_up_a _ _ _ _ (by decide)]; exact i37) (by omega) (by dsimp only; exact q_up_s _ _ _ _)
    have f5 : Fr [63, 66, 60, 4822, 4837] M' (q_up M4.1 63 (m + 1) (sV M n m), M4.2) := fr_up rfl (fr_mo rfl f4)
    refine ⟨M5, ?_, fr_t2 rfl rfl f5 k2, fun j hj => ?_, ?_, ?_, fun f hf => ?_, ?_, ?_⟩
    · rw [show k + 1 + 100 = k + 100 + 1 by omega, b_X9_pass_52, ff.1 48 0 rfl, hF.2.2.1, if_pos (Int32.le_refl _), e37, nI_1, q_up_s, ← e3, h1', q_bi_s, if_neg (nI_in (by omega) (by decide)), nI_clamp (by omega)]
      exact k1
    · rw [k2.1 63 j rfl]
      dsimp only
      rw [q_up_k _ _ _ _ (by omega), f4.1 63 j rfl]
      exact e63 j hj
    · rw [k2.1 63 (m + 1) rfl]
      exact q_up1 _ _ _ _ _
    · rw [k2.1 48 37 rfl]
      dsimp only
      rw [q_up_a _ _ _ _ (by decide)]
      exact i37
    · rw [k3 f hf, if_pos (Nat.zero_le _)]
    · rw [k4]
      dsimp only
      rw [q_up_a _ _ _ _ (by decide), f4.1 48 38 rfl]
    · rw [k5]
      dsimp only
      rw [q_up_a _ _ _ _ (by decide), f4.1 48 39 rfl]
theorem p_pass : QPi sl sx JA 108 231 [] := by
  intro M hJ
  obtain ⟨n, b, hF, hT, hL, hC, hD, hK, hS, hH⟩ := id hJ
  obtain ⟨m, d1, d2, d3, d4, d5, d6, d7, d8, d9⟩ := hD
  by_cases hm : m < 300
  rotate_left
  · have e : m = 300 := by omega
    subst e
    refine ⟨-5, M, M, ?_, ?_, hJ⟩
    · rw [e_X8_pass, b_X8_pass_0, d3, if_neg (by decide)]
    · rw [e_X9_pass, b_X9_pass_0, d2, if_pos (by decide)]
  have hh := jd_hR hF d2 d1 d4
  obtain ⟨M1, a1, a2, a3, a4, a5, a6, a7, a8⟩ := k_pass (sl := sl) (sx := sx) (d := 993) hF hm d2 d3 d4 d5 (h' := fun j => if j = m + 1 then sV M n m else hB M j) (fun j hj => if_neg (by omega)) (if_pos rfl)
  have n10' := hF.1
  have n300 : ¬ nI m = 300 := by rw [q_eqI, nI_toInt (by omega), qv_300]; omega
  -- the reference's counts are cleared
  have c0 : ∀ (M0 : QM) (N : Nat), 100 < N → ∃ N' M2, 100 ≤ N' + 5 ∧ N ≤ N' + 5 ∧ qF sl sx 999 231 N 32 [some (.ref 48), some (.int 0)] [] M0 = qF sl sx 999 231 N' 52 [some (.ref 48), some (.int 0)] [] M2 ∧ Fr [66] M0 M2 ∧ ∀ v, v < 4 → M2.1 66 v = 0 := by
    intro M0 N hN
    obtain ⟨N, rfl⟩ : ∃ N', N = N' + 1 + 1 + 1 + 1 + 1 := ⟨N - 5, by omega⟩
    refine ⟨N, (q_up (q_up (q_up (q_up M0.1 66 0 0) 66 1 0) 66 2 0) 66 3 0, M0.2), by omega, by omega, ?_, fr_up rfl (fr_up rfl (fr_up rfl (fr_up rfl fr_rf))), fun v hv => ?_⟩
    · have z1 : (0 : Int32) + 1 = 1 := by decide
      have z2 : (1 : Int32) + 1 = 2 := by decide
      have z3 : (2 : Int32) + 1 = 3 := by decide
      have z4 : (3 : Int32) + 1 = 4 := by decide
      rw [b_X9_pass_32, if_neg (by decide), if_neg (by decide), z1, b_X9_pass_32, if_neg (by decide), if_neg (by decide), z2, b_X9_pass_32, if_neg (by decide), if_neg (by decide), z3, b_X9_pass_32, if_neg (by decide), if_neg (by decide), z4, b_X9_pass_32, if_pos (by decide)]
      rfl
    · have : v = 0 ∨ v = 1 ∨ v = 2 ∨ v = 3 := by omega
      rcases this with rfl | rfl | rfl | rfl <;> (dsimp only; simp (disch := omega) only [q_up_s, q_up_a, q_up_k, q_uc_a, q_uc_s])
  have fin : ∀ M0 : QM, Fr [63] M1 M0 → (∀ j, j ≤ m → M0.1 63 j = hB M j) → qK sl sx 1000 231 [.ref 48] M1 = qF sl sx 999 231 q_n1 32 [some (.ref 48), some (.int 0)] [] M0 → ∃ (v : Int32) (M1 M2 : QM), qK sl sx 1000 108 [.ref 4] M = some (some (.int v), M1) ∧ qK sl sx 1000 231 [.ref 48] M1 = some (some (.int v), M2) ∧ JA M2 := by
    intro M0 g1 g2 g3
    obtain ⟨N', M2, q0, q1, q2, q3, q4⟩ := c0 M0 q_n1 (q_n1b (by decide))
    have f2 : Fr [63, 66, 13, 1703, 19, 20, 21, 22, 23] M M2 := fr_t2 rfl rfl a2 (fr_t2 (l := [63, 66]) rfl rfl g1 q3)
    obtain ⟨M3, h1, h2, h3, h4, h5, h6, h7, h8⟩ := k9_passM (sl := sl) (sx := sx) (d := 797) (n := n) (M := M) (m := m) (M' := M2) hF hL hm d2 hh d5 f2 (fun j hj => (q3.1 63 j rfl).trans (g2 j hj)) (N := N') (by have := q_n1b (k := 500) (by decide); omega) q4
    have ff := fr_t2 (l := [63, 66, 13, 1703, 19, 20, 21, 22, 23, 60, 4822, 4837, 67, 4838, 4839]) rfl rfl f2 h2
    have f13 : Fr [63, 66, 60, 4822, 4837, 67, 4838, 4839] M1 M3 := fr_t2 rfl rfl (fr_t2 (l := [63, 66]) rfl rfl g1 q3) h2
    have e63 : ∀ j, j ≤ m + 1 → (if j = m + 1 then sV M n m else hB M j) = M3.1 63 j := by
      intro j hj
      by_cases q : j = m + 1
      · rw [if_pos q, q, h4]
      · rw [if_neg q, h3 j (by omega)]
    obtain ⟨t1, t2, t3, t4⟩ := a3
    refine ⟨sV M n m, M1, M3, a1, g3.trans (q2.trans h1), n, b, jF_fr rfl ff hF, jT_fr rfl ff hT, jL_fr rfl ff hL, jC_fr rfl ff hC, ⟨m + 1, by omega, h5, (f13.1 21 1 rfl).trans t1, fun _ => ⟨⟨(f13.1 21 1 rfl).trans t1, (f13.1 21 2 rfl).trans ?_, by omega, fun j hj => (f13.1 22 j rfl).trans ((t4 j hj).trans (e63 j hj))⟩, fun j hj => ?_⟩, fun f hf => ?_, ?_, ?_, ?_, ?_⟩, jK_fr rfl ff hK, jS_fr rfl ff hS, jH_fr rfl ff hH⟩
    · rw [t2, lr_congr (m + 1) e63]
    · rw [← e63 j hj]
      by_cases q : j = m + 1
      · rw [if_pos q]
        exact st_R _ _ _ _ _ _ _
      · rw [if_neg q]
        exact hh j (by omega)
    · rw [h6 f hf, f13.1 23 f rfl, a4 f hf]
      decide
    · rw [f13.1 20 2 rfl, a5, d6, h7, q3.1 48 38 rfl, g1.1 48 38 rfl, a2.1 48 38 rfl]
    · rw [f13.1 20 3 rfl, a6, d7, h8, q3.1 48 39 rfl, g1.1 48 39 rfl, a2.1 48 39 rfl]
    · rw [f13.1 20 4 rfl, a7, d8, ff.1 48 40 rfl]
    · rw [f13.1 20 5 rfl, a8, d9, ff.1 48 41 rfl]
  by_cases z : M.1 48 37 = 0
  · refine fin (q_up M1.1 63 0 (M1.1 48 2), M1.2) (fr_up rfl fr_rf) (fun j hj => ?_) ?_
    · have m0 : m = 0 := by
        rw [d2] at z
        exact (nI_eq (by omega) (by decide)).mp z
      have j0 : j = 0 := by omega
      subst j0
      unfold hB
      rw [if_pos ⟨rfl, z⟩]
      dsimp only
      rw [q_up_s, a2.1 48 2 rfl]
    · rw [e_X9_pass, b_X9_pass_0, a2.1 48 37 rfl, if_neg (by rw [d2]; exact n300), if_pos z]
  · refine fin M1 fr_rf (fun j hj => ?_) ?_
    · unfold hB
      rw [if_neg (fun q => z q.2)]
      exact a2.1 63 j rfl
    · rw [e_X9_pass, b_X9_pass_0, a2.1 48 37 rfl, if_neg (by rw [d2]; exact n300), if_neg z]
end PASS
