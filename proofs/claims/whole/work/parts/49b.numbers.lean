/-! PAIRS: numbers of farms and of all (wip/whole/f) -/
theorem n10 : ¬ ((1 : Int32) = 0) := by decide
abbrev NU (n : Nat) (x1 x2 : Int32) : Prop := (0 ≤ x2.toInt ∧ x2.toInt ≤ 4 ∧ 0 ≤ x1.toInt ∧ x1.toInt < n) ∨ (5 ≤ x2.toInt ∧ x2.toInt ≤ 7 ∧ x1 = 0)
abbrev VA (n w f : Nat) : Prop := w < 8 ∧ (w < 5 ∧ f < n ∨ 5 ≤ w ∧ f = 0)
def sn (w f : Nat) : Nat := if w < 5 then 5 * f + w else 45 + w
def rv (M : QM) (w f : Nat) : Int32 := if w < 5 then M.1 (49 + w) f else M.1 48 (w - 4)
def wr (M : QM) (w f : Nat) (v : Int32) : QM := if w < 5 then (q_up M.1 (49 + w) f v, M.2) else (q_up M.1 48 (w - 4) v, M.2)
theorem nu_ex {n : Nat} {x1 x2 : Int32} (h : NU n x1 x2) : ∃ w f, x1 = nI f ∧ x2 = nI w ∧ VA n w f := by
  rcases h with ⟨h1, h2, h3, h4⟩ | ⟨h1, h2, h3⟩
  · exact ⟨x2.toInt.toNat, x1.toInt.toNat, q_ofN h3, q_ofN h1, by omega, by omega⟩
  · exact ⟨x2.toInt.toNat, 0, h3, q_ofN (by omega), by omega, by omega⟩
theorem rn_w {M : QM} {w f : Nat} (h : w < 5) : RN M (5 * f + w) = M.1 (49 + w) f := by
  have : w = 0 ∨ w = 1 ∨ w = 2 ∨ w = 3 ∨ w = 4 := by omega
  rcases this with rfl | rfl | rfl | rfl | rfl
  · exact rn0 M f
  · exact rn1 M f
  · exact rn2 M f
  · exact rn3 M f
  · exact rn4 M f
theorem sn_lt {n w f : Nat} (hn : n ≤ 10) (h : VA n w f) : sn w f < 53 := by
  unfold sn
  split <;> omega
theorem Rg_of {N : Nat → Int32} {j : Nat} (h : ∀ c, c < 5 → rg (N (5 * j + c)) (mx c)) : Rg N j := by
  have h0 := h 0 (by decide)
  have h1 := h 1 (by decide)
  have h2 := h 2 (by decide)
  have h3 := h 3 (by decide)
  have h4 := h 4 (by decide)
  exact ⟨h0.1, h0.2, h1.1, h1.2, h2.1, h2.2, h3.1, h3.2, h4.1, h4.2⟩
theorem of_Rg {N : Nat → Int32} {j : Nat} (h : Rg N j) (c : Nat) (hc : c < 5) : rg (N (5 * j + c)) (mx c) := by
  obtain ⟨r0, r1, r2, r3, r4, r5, r6, r7, r8, r9⟩ := h
  have : c = 0 ∨ c = 1 ∨ c = 2 ∨ c = 3 ∨ c = 4 := by omega
  rcases this with rfl | rfl | rfl | rfl | rfl
  · exact ⟨r0, r1⟩
  · exact ⟨r2, r3⟩
  · exact ⟨r4, r5⟩
  · exact ⟨r6, r7⟩
  · exact ⟨r8, r9⟩
theorem jf_rv {n w f : Nat} {M : QM} (j : JF n M) (h : VA n w f) : M.1 6 (sn w f) = rv M w f := by
  obtain ⟨j1, j2, j3, j4, j5, j6, j7, j8, j9, _⟩ := j
  unfold sn rv
  by_cases c : w < 5
  · rw [if_pos c, if_pos c, j5 _ (by omega), rn_w c]
  · rw [if_neg c, if_neg c]
    have : w = 5 ∨ w = 6 ∨ w = 7 := by omega
    rcases this with rfl | rfl | rfl
    · exact j7
    · exact j8
    · exact j9
theorem jf_rg {n w f : Nat} {M : QM} (j : JF n M) (h : VA n w f) : rg (rv M w f) (mx w) := by
  rw [← jf_rv j h]
  obtain ⟨j1, j2, j3, j4, j5, j6, j7, j8, j9, j10, j11, j12⟩ := j
  unfold sn
  by_cases c : w < 5
  · rw [if_pos c]
    exact of_Rg (j4 f (by omega)) w c
  · rw [if_neg c]
    have : w = 5 ∨ w = 6 ∨ w = 7 := by omega
    rcases this with rfl | rfl | rfl
    · exact j10
    · exact j11
    · exact j12
theorem jF_wr {n w f : Nat} {v : Int32} {M M' : QM} (j : JF n M) (h : VA n w f) (hv : rg v (mx w)) (e6 : ∀ i, M'.1 6 i = if i = sn w f then v else M.1 6 i) (eR : ∀ c k, c < 5 → M'.1 (49 + c) k = if c = w ∧ k = f then v else M.1 (49 + c) k) (e48 : ∀ k, 1 ≤ k → k ≤ 3 → M'.1 48 k = if k + 4 = w then v else M.1 48 k) (e5 : M'.1 5 1 = M.1 5 1) (e0 : M'.1 48 0 = M.1 48 0) : JF n M' := by
  obtain ⟨j1, j2, j3, j4, j5, j6, j7, j8, j9, j10, j11, j12⟩ := j
  have es : ∀ jj c, jj < 10 → c < 5 → (5 * jj + c = sn w f ↔ c = w ∧ jj = f) := by
    intro jj c hj hc
    unfold sn
    by_cases q : w < 5
    · rw [if_pos q]; omega
    · rw [if_neg q]; omega
  refine ⟨j1, e5.trans j2, e0.trans j3, fun jj hj => Rg_of (fun c hc => ?_), fun i hi => ?_, fun jj h1 h2 => ?_, ?_, ?_, ?_, ?_, ?_, ?_⟩
  · rw [e6]
    by_cases q : 5 * jj + c = sn w f
    · rw [if_pos q, ((es jj c (by omega) hc).mp q).1]; exact hv
    · rw [if_neg q]; exact of_Rg (j4 jj hj) c hc
  · have hi5 : i = 5 * (i / 5) + i % 5 := by omega
    have hc : i % 5 < 5 := by omega
    generalize i / 5 = jj at *
    generalize i % 5 = c at *
    subst hi5
    rw [e6, rn_w hc, eR c jj hc]
    by_cases q : 5 * jj + c = sn w f
    · rw [if_pos q, if_pos ((es jj c (by omega) hc).mp q)]
    · rw [if_neg q, if_neg (fun k => q ((es jj c (by omega) hc).mpr k)), j5 _ hi, rn_w hc]
  · rw [e6, if_neg, j6 jj h1 h2]
    intro q
    have := (es jj 4 h2 (by decide)).mp q
    omega
  · rw [e6, e48 1 (by decide) (by decide), j7]
    unfold sn
    by_cases q : w = 5
    · rw [if_pos (by rw [q]; rfl), if_pos (by omega)]
    · rw [if_neg, if_neg (by omega)]
      split <;> omega
  · rw [e6, e48 2 (by decide) (by decide), j8]
    unfold sn
    by_cases q : w = 6
    · rw [if_pos (by rw [q]; rfl), if_pos (by omega)]
    · rw [if_neg, if_neg (by omega)]
      split <;> omega
  · rw [e6, e48 3 (by decide) (by decide), j9]
    unfold sn
    by_cases q : w = 7
    · rw [if_pos (by rw [q]; rfl), if_pos (by omega)]
    · rw [if_neg, if_neg (by omega)]
      split <;> omega
  · rw [e6]
    by_cases q : 50 = sn w f
    · have : w = 5 := by
        unfold sn at q
        split at q <;> omega
      subst this
      rw [if_pos q]
      exact hv
    · rw [if_neg q]; exact j10
  · rw [e6]
    by_cases q : 51 = sn w f
    · have : w = 6 := by
        unfold sn at q
        split at q <;> omega
      subst this
      rw [if_pos q]
      exact hv
    · rw [if_neg q]; exact j11
  · rw [e6]
    by_cases q : 52 = sn w f
    · have : w = 7 := by
        unfold sn at q
        split at q <;> omega
      subst this
      rw [if_pos q]
      exact hv
    · rw [if_neg q]; exact j12
section NUMB
variable {sl : Nat} {sx : Nat → Int32} {d n w f : Nat} {M : QM} {x y v : Int32}
theorem k_slotV (j : JF n M) (h : VA n w f) : qK sl sx (d + 2) 17 [.ref 5, .int (nI f), .int (nI w)] M = some (some (.int (nI (sn w f))), M) := by
  obtain ⟨j1, j2, _⟩ := j
  rw [k_slotOf (Or.inl rfl), j2, nI_toInt (show w < 2 ^ 31 by omega), nI_toInt (show f < 2 ^ 31 by omega), nI_toInt (show n < 2 ^ 31 by omega)]
  unfold sn
  by_cases c : w < 5
  · rw [if_neg (by omega), if_pos (by omega), if_pos c]
    have e5 : (5 : Int32) = nI 5 := by decide
    rw [e5, pk_mul, nI_add, Nat.mul_comm]
  · have : w = 5 ∨ w = 6 ∨ w = 7 := by omega
    have f0 : f = 0 := by omega
    subst f0
    rcases this with rfl | rfl | rfl <;> rfl
theorem k_slotN (j : JF n M) (h : ¬ NU n x y) : qK sl sx (d + 2) 17 [.ref 5, .int x, .int y] M = some (some (.int (-1)), M) := by
  obtain ⟨j1, j2, _⟩ := j
  rw [k_slotOf (Or.inl rfl), j2, nI_toInt (show n < 2 ^ 31 by omega)]
  by_cases c : 5 ≤ y.toInt ∧ y.toInt ≤ 7
  · rw [if_pos c, if_neg (fun e => h (Or.inr ⟨c.1, c.2, e⟩))]
  · rw [if_neg c, if_neg (fun e => h (Or.inl e))]
theorem k9_isNumber (j : JF n M) : qK sl sx (d + 2) 159 [.ref 48, .int x, .int y] M = some (some (.int (if NU n x y then 1 else 0)), M) := by
  obtain ⟨j1, _, j3, _⟩ := j
  rw [e_X9_isNumber, b_X9_isNumber_0]
  simp only [k9_isIn, k9_isFarm, q_bi_s, j3, nI_toInt (show n < 2 ^ 31 by omega), qv_0, qv_4, qv_5, qv_7]
  grind
theorem k9_read (hn : n ≤ 10) (h : VA n w f) : qK sl sx (d + 1) 160 [.ref 48, .int (nI f), .int (nI w)] M = some (some (.int (rv M w f)), M) := by
  rw [e_X9_read, b_X9_read_0]
  have fi : ¬ (nI f < 0 ∨ 10 ≤ (nI f).toNatClampNeg) := nI_in (by omega) (by decide)
  rw [if_neg fi, if_neg fi, if_neg fi, if_neg fi, if_neg fi, nI_clamp (by omega)]
  have : w = 0 ∨ w = 1 ∨ w = 2 ∨ w = 3 ∨ w = 4 ∨ w = 5 ∨ w = 6 ∨ w = 7 := by omega
  rcases this with rfl | rfl | rfl | rfl | rfl | rfl | rfl | rfl <;> rfl
theorem k9_write (hn : n ≤ 10) (h : VA n w f) : qK sl sx (d + 1) 161 [.ref 48, .int (nI f), .int (nI w), .int v] M = some (none, wr M w f v) := by
  rw [e_X9_write, b_X9_write_0]
  have fi : ¬ (nI f < 0 ∨ 10 ≤ (nI f).toNatClampNeg) := nI_in (by omega) (by decide)
  rw [if_neg fi, if_neg fi, if_neg fi, if_neg fi, if_neg fi, nI_clamp (by omega)]
  have : w = 0 ∨ w = 1 ∨ w = 2 ∨ w = 3 ∨ w = 4 ∨ w = 5 ∨ w = 6 ∨ w = 7 := by omega
  rcases this with rfl | rfl | rfl | rfl | rfl | rfl | rfl | rfl <;> rfl
theorem k9_most (h : w < 8) : qK sl sx (d + 1) 158 [.ref 48, .int (nI w)] M = some (some (.int (q_t0 w)), M) := by
  rw [e_X9_most, b_X9_most_0]
  have : w = 0 ∨ w = 1 ∨ w = 2 ∨ w = 3 ∨ w = 4 ∨ w = 5 ∨ w = 6 ∨ w = 7 := by omega
  rcases this with rfl | rfl | rfl | rfl | rfl | rfl | rfl | rfl <;> rfl
theorem k_mostOf (h : w < 8) : qK sl sx (d + 1) 127 [.int (nI w)] M = some (some (.int (q_t0 w)), M) := by
  rw [e_X8_mostOf, b_X8_mostOf_0, if_neg (nI_pos (by omega)), if_neg (show ¬ (8 : Int32) ≤ nI w by rw [Int32.le_iff_toInt_le, nI_toInt (by omega), qv_8]; omega), if_neg (nI_in h (by decide)), nI_clamp (by omega)]
theorem mx_t0 (h : w < 8) : (q_t0 w).toInt = mx w := by
  have : w = 0 ∨ w = 1 ∨ w = 2 ∨ w = 3 ∨ w = 4 ∨ w = 5 ∨ w = 6 ∨ w = 7 := by omega
  rcases this with rfl | rfl | rfl | rfl | rfl | rfl | rfl | rfl <;> decide
theorem k_valueV (hn : n ≤ 10) (h : VA n w f) : qK sl sx (d + 1) 18 [.ref 5, .int (nI (sn w f))] M = some (some (.int (M.1 6 (sn w f))), M) := by
  have hs := sn_lt hn h
  rw [k_value (Or.inl rfl), nI_toInt (by omega), if_pos ⟨by omega, by omega⟩, Int.toNat_natCast]
theorem k_writeV (hn : n ≤ 10) (h : VA n w f) : qK sl sx (d + 1) 19 [.ref 5, .int (nI (sn w f)), .int v] M = some (none, (q_up M.1 6 (sn w f) v, M.2)) := by
  have hs := sn_lt hn h
  rw [k_write (Or.inl rfl), nI_toInt (by omega), if_pos ⟨by omega, by omega⟩, Int.toNat_natCast]
theorem wr_a (M : QM) (w f : Nat) (v : Int32) {a k : Nat} (h1 : ¬ (49 ≤ a ∧ a < 54)) (h2 : ¬ (a = 48 ∧ 1 ≤ k ∧ k ≤ 3)) (hw : w < 8) : (wr M w f v).1 a k = M.1 a k := by
  unfold wr
  split
  · dsimp only
    rw [q_up_a _ _ _ _ (by omega)]
  · dsimp only
    unfold q_up
    rw [if_neg (by omega)]
theorem wr_r (M : QM) (w f : Nat) (v : Int32) {c k : Nat} (hc : c < 5) : (wr M w f v).1 (49 + c) k = if c = w ∧ k = f then v else M.1 (49 + c) k := by
  unfold wr
  split
  · dsimp only
    unfold q_up
    by_cases q : c = w ∧ k = f
    · rw [if_pos q, if_pos (by omega)]
    · rw [if_neg q, if_neg (by omega)]
  · dsimp only
    unfold q_up
    rw [if_neg (by omega), if_neg (by omega)]
theorem wr_s (M : QM) (w f : Nat) (v : Int32) {k : Nat} (hw : w < 8) (h1 : 1 ≤ k) (h3 : k ≤ 3) : (wr M w f v).1 48 k = if k + 4 = w then v else M.1 48 k := by
  unfold wr
  split
  · dsimp only
    unfold q_up
    rw [if_neg (by omega), if_neg (by omega)]
  · dsimp only
    unfold q_up
    by_cases q : k + 4 = w
    · rw [if_pos q, if_pos (by omega)]
    · rw [if_neg q, if_neg (by omega)]
theorem wr_fr (M : QM) (w f : Nat) (v : Int32) (hw : w < 8) : Fr [49, 50, 51, 52, 53, 4801, 4802, 4803] M (wr M w f v) := by
  unfold wr
  have : w = 0 ∨ w = 1 ∨ w = 2 ∨ w = 3 ∨ w = 4 ∨ w = 5 ∨ w = 6 ∨ w = 7 := by omega
  rcases this with rfl | rfl | rfl | rfl | rfl | rfl | rfl | rfl <;> exact fr_up rfl fr_rf
/-- the class's number and the reference's become v -/
theorem jF_both {M1 : QM} (j : JF n M) (h : VA n w f) (hv : rg v (mx w)) (f1 : Fr [6, 28, 29, 30, 31, 56, 57, 58, 59, 4820, 4821] M M1) (e6 : ∀ i, M1.1 6 i = if i = sn w f then v else M.1 6 i) {M2 : QM} (f2 : Fr [28, 4820, 4821] (wr M1 w f v) M2) : JF n M2 := by
  refine jF_wr j h hv (fun i => ?_) (fun c k hc => ?_) (fun k h1 h3 => ?_) ?_ ?_
  · rw [f2.1 6 i rfl, wr_a _ _ _ _ (by omega) (by omega) h.1]
    exact e6 i
  · have e1 : q_key (49 + c) k = 49 + c := by unfold q_key; rw [if_neg (by omega), if_neg (by omega), if_neg (by omega)]
    have hc' : c = 0 ∨ c = 1 ∨ c = 2 ∨ c = 3 ∨ c = 4 := by omega
    rw [show M2.1 (49 + c) k = (wr M1 w f v).1 (49 + c) k by rcases hc' with rfl | rfl | rfl | rfl | rfl <;> exact f2.1 _ k rfl, wr_r _ _ _ _ hc, show M1.1 (49 + c) k = M.1 (49 + c) k by rcases hc' with rfl | rfl | rfl | rfl | rfl <;> exact f1.1 _ k rfl]
  · have hk : k = 1 ∨ k = 2 ∨ k = 3 := by omega
    rw [show M2.1 48 k = (wr M1 w f v).1 48 k by rcases hk with rfl | rfl | rfl <;> exact f2.1 48 _ rfl, wr_s _ _ _ _ h.1 h1 h3, show M1.1 48 k = M.1 48 k by rcases hk with rfl | rfl | rfl <;> exact f1.1 48 _ rfl]
  · rw [f2.1 5 1 rfl, wr_a _ _ _ _ (by omega) (by omega) h.1]
    exact f1.1 5 1 rfl
  · rw [f2.1 48 0 rfl, wr_a _ _ _ _ (by omega) (by omega) h.1]
    exact f1.1 48 0 rfl
/-! what is rung NOW -/
def rnw (M : QM) : Int32 := if M.1 48 37 = 0 then M.1 48 2 else M.1 63 (M.1 48 37).toInt.toNat
theorem k_rungNow (hF : JF n M) (hD : JD M) : qK sl sx (d + 3) 147 [.ref 4] M = some (some (.int (rnw M)), M) := by
  obtain ⟨_, _, _, _, _, _, _, j8, _⟩ := hF
  obtain ⟨m, d1, d2, d3, d4, _⟩ := hD
  unfold rnw
  rw [e_X8_rungNow, b_X8_rungNow_0, d3, d2]
  by_cases c : m = 0
  · rw [if_pos (by rw [c]; rfl), if_pos (by rw [c]; rfl), k_common6 (Or.inl rfl), q_bi_s, ← j8]
  · have c' : ¬ nI m = 0 := nI_ne0 (by omega) (by omega)
    rw [if_neg c', if_neg c', k_atN (Or.inr (Or.inr (Or.inl rfl))) (d4 (by omega)).1 (Nat.le_refl m), q_bi_s, nI_toInt (by omega), Int.toNat_natCast]
theorem k9_rungNow (hD : JD M) : qK sl sx (d + 1) 230 [.ref 48] M = some (some (.int (rnw M)), M) := by
  obtain ⟨m, d1, d2, d3, d4, _⟩ := hD
  unfold rnw
  rw [e_X9_rungNow, b_X9_rungNow_0, d2]
  by_cases c : nI m = 0
  · rw [if_pos c, if_pos c]
  · rw [if_neg c, if_neg c, if_neg (nI_in (by omega) (by decide)), nI_clamp (by omega), nI_toInt (by omega), Int.toNat_natCast]
theorem p_led (x : Int32) : QPi sl sx JA 111 234 [.int x] := by
  intro M hJ
  obtain ⟨n, b, hF, hT, hL, hC, hD, hK, hS, hH⟩ := id hJ
  have r1 := k_rungNow (sl := sl) (sx := sx) (d := 996) hF hD
  have r2 := k9_rungNow (sl := sl) (sx := sx) (d := 998) hD
  obtain ⟨m, d1, d2, d3, d4, d5, d6, d7, d8, d9⟩ := hD
  refine ⟨if x = 0 then M.1 48 38 else if x = 1 then M.1 48 39 else if x = 2 then M.1 48 40 else if x = 3 then M.1 48 41 else if x = 4 then rnw M else -1, M, M, ?_, ?_, hJ⟩
  · rw [e_X8_led, b_X8_led_0, r1, q_bi_s, d6, d7, d8, d9]
    grind
  · rw [e_X9_led, b_X9_led_0, r2, q_bi_s]
    grind
theorem p_of (x y : Int32) : QPi sl sx JA 85 166 [.int x, .int y] := by
  intro M hJ
  obtain ⟨n, b, hF, hT, hL, hC, hD, hK, hS, hH⟩ := id hJ
  have r1 := k_rungNow (sl := sl) (sx := sx) (d := 996) hF hD
  have r2 := k9_rungNow (sl := sl) (sx := sx) (d := 998) hD
  have n1 := k9_isNumber (sl := sl) (sx := sx) (d := 997) (x := x) (y := y) hF
  obtain ⟨m, d1, d2, d3, d4, d5, d6, d7, d8, d9⟩ := hD
  have y10 : y = 10 ↔ y.toInt = 10 := by rw [q_eqI, qv_10]
  have y11 : y = 11 ↔ y.toInt = 11 := by rw [q_eqI, qv_11]
  by_cases c : NU n x y
  · obtain ⟨w, f, e1, e2, va⟩ := nu_ex c
    have hw : (nI w).toInt = (w : Int) := nI_toInt (by omega)
    have ny0 : ¬ y = 10 := by rw [y10, e2, hw]; omega
    have ny1 : ¬ y = 11 := by rw [y11, e2, hw]; omega
    have s1 := k_slotV (sl := sl) (sx := sx) (d := 997) hF va
    have v1 := k_valueV (sl := sl) (sx := sx) (d := 998) (M := M) hF.1 va
    have q1 := k9_read (sl := sl) (sx := sx) (d := 998) (M := M) hF.1 va
    rw [jf_rv hF va] at v1
    refine ⟨rv M w f, M, M, ?_, ?_, hJ⟩
    · rw [e_X8_of, b_X8_of_0, if_neg ny0, if_neg ny1, e1, e2, s1, q_bi_s, if_pos (nI_pos' (by have := sn_lt hF.1 va; omega)), v1, q_bi_s]
    · rw [e_X9_of, b_X9_of_0, if_neg ny0, if_neg ny1, n1, q_bi_s, if_pos c, if_neg n10, e1, e2, q1, q_bi_s]
      split <;> (try split) <;> rfl
  · have s1 := k_slotN (sl := sl) (sx := sx) (d := 997) hF c
    refine ⟨if x = 0 then (if y = 10 then M.1 48 37 else if y = 11 then rnw M else -1) else -1, M, M, ?_, ?_, hJ⟩
    · rw [e_X8_of, b_X8_of_0, s1, q_bi_s, r1, q_bi_s, if_neg (show ¬ (0 : Int32) ≤ -1 by decide), d3, d2]
      grind
    · rw [e_X9_of, b_X9_of_0, n1, if_neg c, r2]
      simp only [q_bi_s]
      grind
end NUMB
