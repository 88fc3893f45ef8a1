/-! THE REFERENCE RINGS A DAY (wip/whole/f) -/
def RN (M : QM) : Nat → Int32 := fun i => if i % 5 = 0 then M.1 49 (i / 5) else if i % 5 = 1 then M.1 50 (i / 5) else if i % 5 = 2 then M.1 51 (i / 5) else if i % 5 = 3 then M.1 52 (i / 5) else M.1 53 (i / 5)
theorem rn0 (M : QM) (j : Nat) : RN M (5 * j) = M.1 49 j := by
  unfold RN
  rw [if_pos (by omega)]
  rw [show 5 * j / 5 = j by omega]
theorem rn1 (M : QM) (j : Nat) : RN M (5 * j + 1) = M.1 50 j := by
  unfold RN
  rw [if_neg (by omega), if_pos (by omega)]
  rw [show (5 * j + 1) / 5 = j by omega]
theorem rn2 (M : QM) (j : Nat) : RN M (5 * j + 2) = M.1 51 j := by
  unfold RN
  rw [if_neg (by omega), if_neg (by omega), if_pos (by omega)]
  rw [show (5 * j + 2) / 5 = j by omega]
theorem rn3 (M : QM) (j : Nat) : RN M (5 * j + 3) = M.1 52 j := by
  unfold RN
  rw [if_neg (by omega), if_neg (by omega), if_neg (by omega), if_pos (by omega)]
  rw [show (5 * j + 3) / 5 = j by omega]
theorem rn4 (M : QM) (j : Nat) : RN M (5 * j + 4) = M.1 53 j := by
  unfold RN
  rw [if_neg (by omega), if_neg (by omega), if_neg (by omega), if_neg (by omega)]
  rw [show (5 * j + 4) / 5 = j by omega]
abbrev bt (x : Int32) (j : Nat) : Prop := ((x >>> (nI j &&& 31)) &&& 1) = 1
theorem bt_0 : ∀ j, j < 10 → ¬ bt 0 j := by decide
def rG (M : QM) (h h2 : Nat → Int32) (m j : Nat) : Int32 :=
  if M.1 65 m = 0 then (if nI j = M.1 48 31 ∧ nI m = M.1 48 32 then M.1 48 33 else if bt (M.1 48 30) j then 0 else if bt (M.1 48 34) j then sgn (RN M) j m h2 else sgn (RN M) j m h) else 0
def rS (M : QM) : (Nat → Int32) → Nat → Nat → Int32 := fun h m j => rG M h (M.1 62) m j
theorem txok_fr {M M' : QM} (e1 : M'.1 17 1 = M.1 17 1) (e2 : M'.1 18 = M.1 18) (e3 : M'.1 55 = M.1 55) (e5 : M'.1 48 5 = M.1 48 5) (h : TxOk M) : TxOk M' := by
  unfold TxOk at h ⊢
  rw [e1, e2, e3, e5]
  exact h
def JL (M : QM) : Prop := (M.1 48 8 = 0 ∧ (M.1 17 1).toInt ≤ 0) ∨ (M.1 48 8 = 1 ∧ 0 < (M.1 17 1).toInt ∧ TxOk M)
def qIsR (a : Nat) : Prop := a = 61 ∨ a = 62 ∨ a = 63
theorem jl_fr {M M' : QM} (e1 : ∀ k, M'.1 17 k = M.1 17 k ∨ k = 3) (e2 : M'.1 18 = M.1 18) (e3 : M'.1 55 = M.1 55) (e4 : M'.1 48 8 = M.1 48 8) (e5 : M'.1 48 5 = M.1 48 5) (h : JL M) : JL M' := by
  have e6 : M'.1 17 1 = M.1 17 1 := by
    rcases e1 1 with q | q
    · exact q
    · omega
  unfold JL at h ⊢
  rw [e4, e6]
  rcases h with h | ⟨h1, h2, h3⟩
  · exact Or.inl h
  · exact Or.inr ⟨h1, h2, txok_fr e6 e2 e3 e5 h3⟩
section RDAY
variable {sl : Nat} {sx : Nat → Int32} {d : Nat} {a : Nat} {M : QM} {x y z : Int32}
theorem qR_arI {β : Type} (h : qIsR a) (i : Int32) (g : Int32 → Option β) : q_arI qG0 (qX sl sx) M a i g = if i < 0 ∨ 301 ≤ i.toNatClampNeg then none else g (M.1 a i.toNatClampNeg) := by rcases h with rfl | rfl | rfl <;> rfl
theorem k9_isIn : qK sl sx (d + 1) 151 [.ref 48, .int x, .int y, .int z] M = some (some (.int (if y.toInt ≤ x.toInt ∧ x.toInt ≤ z.toInt then 1 else 0)), M) := by
  rw [e_X9_isIn, b_X9_isIn_0]
  simp only [Int32.lt_iff_toInt_lt]
  grind
theorem k9_isFarm : qK sl sx (d + 1) 152 [.ref 48, .int x] M = some (some (.int (if 0 ≤ x.toInt ∧ x.toInt < (M.1 48 0).toInt then 1 else 0)), M) := by
  rw [e_X9_isFarm, b_X9_isFarm_0]
  simp only [Int32.lt_iff_toInt_lt, Int32.le_iff_toInt_le, qv_0]
  grind
theorem k9_isMinute : qK sl sx (d + 1) 153 [.ref 48, .int x] M = some (some (.int (if 0 ≤ x.toInt ∧ x.toInt ≤ 300 then 1 else 0)), M) := by
  rw [e_X9_isMinute, b_X9_isMinute_0]
  simp only [Int32.lt_iff_toInt_lt, qv_0, qv_300]
  grind
theorem k9_has {j : Nat} : qK sl sx (d + 1) 154 [.ref 48, .int x, .int (nI j)] M = some (some (.int (if bt x j then 1 else 0)), M) := by
  rw [e_X9_has, b_X9_has_0]
  split <;> rfl
theorem k9_rungAtS (ha : qIsR a) {m F : Nat} {h : Nat → Int32} (hm : m ≤ 300) (hT : ∀ i, i ≤ m → M.1 a i = h i) (e : x.toInt = (m : Int) - F) : qK sl sx (d + 1) 191 [.ref 48, .ref a, .int x] M = some (some (.int (hr h m F)), M) := by
  rw [e_X9_rungAt, b_X9_rungAt_0, hr]
  simp only [qR_arI ha, Int32.lt_iff_toInt_lt, Int32.le_iff_toInt_le, qv_0, q_clamp]
  split
  · rw [if_neg (by omega), if_pos (by omega), show x.toInt.toNat = m - F by omega, hT _ (by omega)]
  · rw [if_neg (by omega)]
theorem k9_signOf (ha : qIsR a) {j m : Nat} {h : Nat → Int32} (hm : m ≤ 300) (hT : ∀ i, i ≤ m → M.1 a i = h i) (hj : j < 10) (hR : Rg (RN M) j) : qK sl sx (d + 2) 192 [.ref 48, .ref a, .int (nI j), .int (nI m)] M = some (some (.int (sgn (RN M) j m h)), M) := by
  unfold Rg at hR
  unfold sgn
  rw [rn0, rn1, rn2, rn3, rn4] at hR
  rw [rn0, rn1, rn2, rn3, rn4]
  obtain ⟨r0, r1, r2, r3, r4, r5, r6, r7, r8, r9⟩ := hR
  have a1 : ∀ d, qK sl sx (d + 1) 191 [.ref 48, .ref a, .int (nI m - M.1 49 j)] M = some (some (.int (hr h m (M.1 49 j).toInt.toNat)), M) := fun d => k9_rungAtS ha hm hT (by
    simp (disch := omega) only [Int32.lt_iff_toInt_lt, Int32.le_iff_toInt_le, q_clamp, nI_toInt, Int.toNat_natCast, Int32.toInt_add, Int32.toInt_sub, Int32.toInt_mul, q_bm, nI_1, if_pos, if_neg, qv_0, qv_1, qv_2, qv_3, qv_4, qv_5, qv_6, qv_7, qv_8, qv_9, qv_10, qv_11, qv_12, qv_20, qv_24, qv_39, qv_40, qv_50, qv_53, qv_59, qv_60, qv_61, qv_63, qv_99, qv_100, qv_119, qv_120, qv_121, qv_255, qv_300, qv_301, qv_m1, qv_m2]
    omega)
  have a2 : ∀ d, qK sl sx (d + 1) 191 [.ref 48, .ref a, .int (nI m - M.1 49 j - M.1 53 j)] M = some (some (.int (hr h m ((M.1 49 j).toInt.toNat + (M.1 53 j).toInt.toNat))), M) := fun d => k9_rungAtS ha hm hT (by
    simp (disch := omega) only [Int32.lt_iff_toInt_lt, Int32.le_iff_toInt_le, q_clamp, nI_toInt, Int.toNat_natCast, Int32.toInt_add, Int32.toInt_sub, Int32.toInt_mul, q_bm, nI_1, if_pos, if_neg, qv_0, qv_1, qv_2, qv_3, qv_4, qv_5, qv_6, qv_7, qv_8, qv_9, qv_10, qv_11, qv_12, qv_20, qv_24, qv_39, qv_40, qv_50, qv_53, qv_59, qv_60, qv_61, qv_63, qv_99, qv_100, qv_119, qv_120, qv_121, qv_255, qv_300, qv_301, qv_m1, qv_m2]
    omega)
  have nj : ¬ (nI j < 0 ∨ 10 ≤ j) := by
    rintro (q | q)
    · exact nI_pos (by omega) q
    · omega
  have nz : ¬ (M.1 51 j + 1 = 0) := by
    simp (disch := omega) only [Int32.lt_iff_toInt_lt, Int32.le_iff_toInt_le, q_clamp, nI_toInt, Int.toNat_natCast, Int32.toInt_add, Int32.toInt_sub, Int32.toInt_mul, q_bm, nI_1, if_pos, if_neg, qv_0, qv_1, qv_2, qv_3, qv_4, qv_5, qv_6, qv_7, qv_8, qv_9, qv_10, qv_11, qv_12, qv_20, qv_24, qv_39, qv_40, qv_50, qv_53, qv_59, qv_60, qv_61, qv_63, qv_99, qv_100, qv_119, qv_120, qv_121, qv_255, qv_300, qv_301, qv_m1, qv_m2, q_eqI]
    omega
  rw [e_X9_signOf, b_X9_signOf_0]
  simp only [nI_clamp (show j < 2 ^ 31 by omega), if_neg nj, a1, a2, q_bi_s, if_neg nz]
  generalize hr h m (M.1 49 j).toInt.toNat = H1
  generalize hr h m ((M.1 49 j).toInt.toNat + (M.1 53 j).toInt.toNat) = H2
  by_cases c0 : M.1 50 j = 0
  · simp only [c0, if_true]
  by_cases c1 : M.1 50 j = 1
  · simp only [if_neg c0, if_pos c1]
  by_cases c2 : M.1 50 j = 2
  · simp only [if_neg c0, if_neg c1, if_pos c2]
    split
    · rfl
    · split <;> rfl
  by_cases c3 : M.1 50 j = 3
  · simp only [if_neg c0, if_neg c1, if_neg c2, if_pos c3]
    by_cases c : nI m - nI m / (M.1 51 j + 1) * (M.1 51 j + 1) = 0
    · simp only [if_pos c]
    · simp only [if_neg c]
  by_cases c4 : M.1 50 j = 4
  · simp only [if_neg c0, if_neg c1, if_neg c2, if_neg c3, if_pos c4]
  simp only [if_neg c0, if_neg c1, if_neg c2, if_neg c3, if_neg c4]
  split <;> rfl
theorem k9_sign {j m : Nat} {h : Nat → Int32} (hm : m ≤ 300) (hT : ∀ i, i ≤ m → M.1 61 i = h i) (hj : j < 10) (hR : Rg (RN M) j) : qK sl sx (d + 3) 193 [.ref 48, .int (nI j), .int (nI m)] M = some (some (.int (rG M h (M.1 62) m j)), M) := by
  have nm : ¬ (nI m < 0 ∨ 301 ≤ m) := by
    rintro (q | q)
    · exact nI_pos (by omega) q
    · omega
  have s1 := fun d => k9_signOf (sl := sl) (sx := sx) (d := d) (a := 61) (Or.inl rfl) hm hT hj hR
  have s2 := fun d => k9_signOf (sl := sl) (sx := sx) (d := d) (a := 62) (h := M.1 62) (Or.inr (Or.inl rfl)) hm (fun _ _ => rfl) hj hR
  rw [e_X9_sign, b_X9_sign_0]
  simp only [nI_clamp (show m < 2 ^ 31 by omega), if_neg nm, k9_has, q_bi_s, s1, s2]
  unfold rG
  by_cases c0 : M.1 65 m = 0
  · simp only [c0, if_true]
    have o1 : ¬ ((1 : Int32) = 0) := by decide
    have tl : ∀ (X Y : Int32), (if nI j = M.1 48 31 then (if nI m = M.1 48 32 then (some (some (Value.int X), M) : Option (Option Value × QM)) else some (some (.int Y), M)) else some (some (.int Y), M)) = some (some (.int (if nI j = M.1 48 31 ∧ nI m = M.1 48 32 then X else Y)), M) := by
      intro X Y
      by_cases c1 : nI j = M.1 48 31
      · by_cases c2 : nI m = M.1 48 32
        · rw [if_pos c1, if_pos c2, if_pos ⟨c1, c2⟩]
        · rw [if_pos c1, if_neg c2, if_neg (fun k => c2 k.2)]
      · rw [if_neg c1, if_neg (fun k => c1 k.1)]
    by_cases c3 : bt (M.1 48 30) j
    · simp only [if_pos c3, if_neg o1]
      exact tl _ _
    · by_cases c4 : bt (M.1 48 34) j
      · simp only [if_neg c3, if_pos c4, if_neg o1, if_true]
        exact tl _ _
      · simp only [if_neg c3, if_neg c4, if_true]
        exact tl _ _
  · simp only [if_neg c0]
theorem rn_fr {M' : QM} (h : Fr [61, 62, 66, 60, 4822] M M') : RN M' = RN M := by
  funext i
  unfold RN
  rw [h.1 49 _ rfl, h.1 50 _ rfl, h.1 51 _ rfl, h.1 52 _ rfl, h.1 53 _ rfl]
theorem rg_fr {M' : QM} {h h2 : Nat → Int32} {m : Nat} (hf : Fr [61, 62, 66, 60, 4822] M M') (j : Nat) : rG M' h h2 m j = rG M h h2 m j := by
  unfold rG
  rw [hf.1 65 _ rfl, hf.1 48 31 rfl, hf.1 48 32 rfl, hf.1 48 33 rfl, hf.1 48 30 rfl, hf.1 48 34 rfl, rn_fr hf]
theorem k9_counts {n m : Nat} {h : Nat → Int32} (hm : m ≤ 300) (hT : ∀ i, i ≤ m → M.1 61 i = h i) (hn : n ≤ 10) (hfn : M.1 48 0 = nI n) (hR : ∀ j, j < n → Rg (RN M) j) (hs : ∀ j, j < n → q_R3 (rG M h (M.1 62) m j)) : ∃ M', qK sl sx (d + 4) 194 [.ref 48, .int (nI m)] M = some (none, M') ∧ Fr [66] M M' ∧ ∀ v, v < 4 → M'.1 66 v = nI (cn (fun j => rG M h (M.1 62) m j) (nI v) n) := by
  rw [e_X9_counts, b_X9_counts_0]
  have main : ∀ M1, Fr [66] M M1 → (∀ v, v < 4 → M1.1 66 v = 0) → ∀ k0, 20 < k0 → ∃ M', qF sl sx (d + 3) 194 k0 22 [some (.ref 48), some (.int (nI m)), some (.int 0)] [] M1 = some (none, M') ∧ Fr [66] M M' ∧ ∀ v, v < 4 → M'.1 66 v = nI (cn (fun j => rG M h (M.1 62) m j) (nI v) n) := by
    intro M1 f1 p1 k0 hk0
    refine q_lu (fun k i (_ : Unit) M' => qF sl sx (d + 3) 194 k 22 [some (.ref 48), some (.int (nI m)), some (.int (nI i))] [] M') n (fun i _ M' => Fr [66] M M' ∧ ∀ v, v < 4 → M'.1 66 v = nI (cn (fun j => rG M h (M.1 62) m j) (nI v) i)) (fun o => ∃ M', o = some (none, M') ∧ Fr [66] M M' ∧ ∀ v, v < 4 → M'.1 66 v = nI (cn (fun j => rG M h (M.1 62) m j) (nI v) n)) (fun k i _ M' hi hI => ?_) (fun k _ M' hI => ?_) (i := 0) (s := ()) (Nat.zero_le _) (by omega) ⟨f1, fun v hv => by rw [p1 v hv]; rfl⟩
    · right
      have hfr : Fr [61, 62, 66, 60, 4822] M M' := fr_mo rfl hI.1
      have e62 : M'.1 62 = M.1 62 := funext fun k => hI.1.1 62 k rfl
      have ks := k9_sign (sl := sl) (sx := sx) (d := d) (M := M') (h := h) (j := i) hm (fun i hi => (hI.1.1 61 i rfl).trans (hT i hi)) (by omega) (by rw [rn_fr hfr]; exact hR i hi)
      rw [rg_fr hfr, e62] at ks
      have hr := hs i hi
      have hv0 : (rG M h (M.1 62) m i).toInt.toNat < 4 := by have := hr.2; omega
      have nv : ¬ (rG M h (M.1 62) m i < 0 ∨ 4 ≤ (rG M h (M.1 62) m i).toInt.toNat) := by
        rw [Int32.lt_iff_toInt_lt, qv_0]
        have := hr.1
        omega
      refine ⟨(), (q_up M'.1 66 (rG M h (M.1 62) m i).toInt.toNat (M'.1 66 (rG M h (M.1 62) m i).toInt.toNat + 1), M'.2), ⟨fr_up rfl hI.1, fun v hv => ?_⟩, ?_⟩
      rotate_left
      · rw [b_X9_counts_22]
        simp only [show M'.1 48 0 = nI n from (hI.1.1 48 0 rfl).trans hfn, ks, q_bi_s, if_neg (nI_ge hi (show n < 2 ^ 31 by omega)), nI_1, if_neg nv, q_clamp]
      · show q_up M'.1 66 _ _ 66 v = _
        rw [cn]
        by_cases q : v = (rG M h (M.1 62) m i).toInt.toNat
        · rw [← q, q_up_s, hI.2 v hv, nI_1, if_pos]
          rw [q]
          exact q_ofN hr.1
        · rw [q_up_k _ _ _ _ q, hI.2 v hv, if_neg]
          · rfl
          · intro e
            apply q
            have e2 : rG M h (M.1 62) m i = nI v := e
            rw [e2, nI_toInt (by omega), Int.toNat_natCast]
    · refine ⟨M', ?_, hI⟩
      rw [b_X9_counts_22]
      simp only [show M'.1 48 0 = nI n from (hI.1.1 48 0 rfl).trans hfn, if_pos (Int32.le_refl (nI n))]
  refine q_lu (fun k i (_ : Unit) M' => qF sl sx (d + 3) 194 (k + 100) 2 [some (.ref 48), some (.int (nI m)), some (.int (nI i))] [] M') 4 (fun i _ M' => Fr [66] M M' ∧ ∀ v, v < i → M'.1 66 v = 0) (fun o => ∃ M', o = some (none, M') ∧ Fr [66] M M' ∧ ∀ v, v < 4 → M'.1 66 v = nI (cn (fun j => rG M h (M.1 62) m j) (nI v) n)) (fun k i _ M' hi hI => ?_) (fun k _ M' hI => ?_) (i := 0) (n := 999899) (s := ()) (Nat.zero_le _) (by decide) ⟨fr_rf, fun v hv => by omega⟩
  · right
    refine ⟨(), (q_up M'.1 66 i 0, M'.2), ⟨fr_up rfl hI.1, fun v hv => ?_⟩, ?_⟩
    · show q_up M'.1 66 i 0 66 v = 0
      by_cases q : v = i
      · rw [q, q_up_s]
      · rw [q_up_k _ _ _ _ q]
        exact hI.2 v (by omega)
    · rw [show k + 1 + 100 = k + 100 + 1 by omega, b_X9_counts_2]
      simp (disch := omega) only [Int32.lt_iff_toInt_lt, Int32.le_iff_toInt_le, q_clamp, nI_toInt, Int.toNat_natCast, Int32.toInt_add, Int32.toInt_sub, Int32.toInt_mul, q_bm, nI_1, if_pos, if_neg, qv_0, qv_1, qv_2, qv_3, qv_4, qv_5, qv_6, qv_7, qv_8, qv_9, qv_10, qv_11, qv_12, qv_20, qv_24, qv_39, qv_40, qv_50, qv_53, qv_59, qv_60, qv_61, qv_63, qv_99, qv_100, qv_119, qv_120, qv_121, qv_255, qv_300, qv_301, qv_m1, qv_m2, nI_clamp]
  · rw [show k + 1 + 100 = k + 100 + 1 by omega, b_X9_counts_2]
    simp (disch := omega) only [Int32.lt_iff_toInt_lt, Int32.le_iff_toInt_le, q_clamp, nI_toInt, Int.toNat_natCast, Int32.toInt_add, Int32.toInt_sub, Int32.toInt_mul, q_bm, nI_1, if_pos, if_neg, qv_0, qv_1, qv_2, qv_3, qv_4, qv_5, qv_6, qv_7, qv_8, qv_9, qv_10, qv_11, qv_12, qv_20, qv_24, qv_39, qv_40, qv_50, qv_53, qv_59, qv_60, qv_61, qv_63, qv_99, qv_100, qv_119, qv_120, qv_121, qv_255, qv_300, qv_301, qv_m1, qv_m2]
    exact main M' hI.1 hI.2 _ (by omega)
theorem k9_rungNext (ha : qIsR a) {m : Nat} {h : Nat → Int32} (hm : m < 300) (hT : ∀ i, i ≤ m → M.1 a i = h i) {c : Nat → Nat} (hc : ∀ v, v < 4 → M.1 66 v = nI (c v)) (hl : ∀ v, c v ≤ 10) (hq : M.1 48 1 = M.1 6 50) (hJ : JL M) : ∃ M', qK sl sx (d + 201) 195 [.ref 48, .ref a, .int (nI (m + 1))] M = some (some (.int (ST M (c 1) (c 2) (c 3) (h m) (lr h m) (m + 1))), M') ∧ Fr [60, 4822] M M' := by
  rw [e_X9_rungNext, b_X9_rungNext_0]
  unfold ST
  have hlt : ∀ v, c v < 2 ^ 31 := fun v => by have := hl v; omega
  rcases hJ with ⟨J1, J2⟩ | ⟨J1, J2, J3⟩
  · rw [if_pos J1, if_neg (by omega)]
    refine ⟨M, ?_, fr_rf⟩
    obtain ⟨N0, hN0⟩ : ∃ N0, q_n1 = N0 + 1 + 1 + 1 + 1 := ⟨999995, rfl⟩
    rw [hN0, b_X9_rungNext_12]
    have i1 : (1 : Int32).toNatClampNeg = 1 := by decide
    have i2 : (2 : Int32).toNatClampNeg = 2 := by decide
    have i3 : (3 : Int32).toNatClampNeg = 3 := by decide
    have p1 : (1 : Int32) + 1 = 2 := by decide
    have p2 : (2 : Int32) + 1 = 3 := by decide
    have p3 : (3 : Int32) + 1 = 4 := by decide
    have n1 : ¬ ((1 : Int32) < 0 ∨ 4 ≤ 1) := by decide
    have n2 : ¬ ((2 : Int32) < 0 ∨ 4 ≤ 2) := by decide
    have n3 : ¬ ((3 : Int32) < 0 ∨ 4 ≤ 3) := by decide
    have m1 : ¬ ((4 : Int32) ≤ 1) := by decide
    have m2 : ¬ ((4 : Int32) ≤ 2) := by decide
    have m3 : ¬ ((4 : Int32) ≤ 3) := by decide
    have m4 : ((4 : Int32) ≤ 4) := by decide
    have z1 : ¬ ((1 : Int32) = 0) := by decide
    have z2 : ¬ ((2 : Int32) = 0) := by decide
    have z3 : ¬ ((3 : Int32) = 0) := by decide
    have e1 : ∀ a, nI (c a) < 1 ↔ ¬ 1 ≤ c a := fun a => by
      rw [Int32.lt_iff_toInt_lt, nI_toInt (hlt a), qv_1]
      omega
    have e2 : ∀ a b, nI (c a) ≤ nI (c b) ↔ ¬ c b < c a := fun a b => by
      rw [nI_leI (hlt a) (hlt b)]
      omega
    have e3 : ∀ a, nI (c a) < M.1 6 50 ↔ ¬ M.1 6 50 ≤ nI (c a) := fun a => by
      rw [Int32.lt_iff_toInt_lt, Int32.le_iff_toInt_le]
      omega
    have e4 : ∀ a b, c a < c b → M.1 6 50 ≤ nI (c a) → M.1 6 50 ≤ nI (c b) := fun a b u v => by
      rw [Int32.le_iff_toInt_le, nI_toInt (hlt _)] at v ⊢
      omega
    have e5 : ∀ a b, ¬ c a < c b → M.1 6 50 ≤ nI (c b) → M.1 6 50 ≤ nI (c a) := fun a b u v => by
      rw [Int32.le_iff_toInt_le, nI_toInt (hlt _)] at v ⊢
      omega
    unfold pk3
    simp only [b_X9_rungNext_12, p1, p2, p3, m1, m2, m3, m4, i1, i2, i3, n1, n2, n3, z1, z2, z3, if_true, if_false, hc 1 (by decide), hc 2 (by decide), hc 3 (by decide), e1, e2, e3, hq]
    have e412 := e4 1 2
    have e413 := e4 1 3
    have e423 := e4 2 3
    have e512 := e5 1 2
    have e513 := e5 1 3
    have e523 := e5 2 3
    generalize nI (c 1) = C1 at *
    generalize nI (c 2) = C2 at *
    generalize nI (c 3) = C3 at *
    by_cases a1 : c 1 < c 2 <;> by_cases a2 : c 2 < c 3 <;> by_cases a3 : c 1 < c 3 <;> by_cases q1 : M.1 6 50 ≤ C1 <;> by_cases q2 : M.1 6 50 ≤ C2 <;> by_cases q3 : M.1 6 50 ≤ C3 <;> simp only [a1, a2, a3, q1, q2, q3, if_true, if_false, not_true, not_false_eq_true, and_true, and_false]
    all_goals grind
  · rw [if_neg (by rw [J1]; decide), if_pos J2]
    obtain ⟨el1, el2⟩ := lr_b h m
    have nm : ¬ (nI m < 0 ∨ 301 ≤ m) := by
      rintro (q | q)
      · exact nI_pos (by omega) q
      · omega
    have fin : ∃ M', (q_arI qG0 (qX sl sx) ((q_up (q_up (q_up M.1 60 97 (M.1 66 1)) 60 98 (M.1 66 2)) 60 99 (M.1 66 3)), M.2) a (nI (m + 1) - 1) (fun v1 => q_bi (qK sl sx (d + 200) 189 [.ref 48] ((q_up (q_up (q_up (q_up (q_up (q_up M.1 60 97 (M.1 66 1)) 60 98 (M.1 66 2)) 60 99 (M.1 66 3)) 60 114 v1) 60 103 (nI (lr h m))) 60 109 (nI (m + 1))), M.2)) (fun v3 M2 => if 0 ≤ v3 then (if v3 ≤ 3 then (some (some (.int v3), M2)) else (some (some (.int 3), M2))) else (some (some (.int 0), M2))))) = some (some (Value.int (clp (GC M (nI (c 1)) (nI (c 2)) (nI (c 3)) (h m) (nI (lr h m)) (nI (m + 1))))), M') ∧ Fr [60, 4822] M M' := by
      have er : q_up (q_up (q_up M.1 60 97 (M.1 66 1)) 60 98 (M.1 66 2)) 60 99 (M.1 66 3) a m = h m := by
        rw [← hT m (Nat.le_refl _)]
        rcases ha with rfl | rfl | rfl <;> (simp (disch := omega) only [q_up_s, q_up_a, q_up_k, q_uc_a, q_uc_s])
      rw [qR_arI ha, nI_pred, nI_clamp (show m < 2 ^ 31 by omega), if_neg nm]
      simp only [er]
      have fr1 : Fr [60] M (q_up (q_up (q_up (q_up (q_up (q_up M.1 60 97 (M.1 66 1)) 60 98 (M.1 66 2)) 60 99 (M.1 66 3)) 60 114 (h m)) 60 103 (nI (lr h m))) 60 109 (nI (m + 1)), M.2) := fr_up rfl (fr_up rfl (fr_up rfl (fr_up rfl (fr_up rfl (fr_up rfl fr_rf)))))
      obtain ⟨M2, g1, g2⟩ := k9_given (sl := sl) (sx := sx) (d := d) (M := (q_up (q_up (q_up (q_up (q_up (q_up M.1 60 97 (M.1 66 1)) 60 98 (M.1 66 2)) 60 99 (M.1 66 3)) 60 114 (h m)) 60 103 (nI (lr h m))) 60 109 (nI (m + 1)), M.2)) (txok_fr (fr1.1 17 1 rfl) (funext fun k => fr1.1 18 k rfl) (funext fun k => fr1.1 55 k rfl) (fr1.1 48 5 rfl) J3)
      refine ⟨M2, ?_, fr_t2 rfl rfl fr1 g2⟩
      rw [g1, q_bi_s]
      have eg : GC (q_up (q_up (q_up (q_up (q_up (q_up M.1 60 97 (M.1 66 1)) 60 98 (M.1 66 2)) 60 99 (M.1 66 3)) 60 114 (h m)) 60 103 (nI (lr h m))) 60 109 (nI (m + 1)), M.2) = GC M := by
        unfold GC
        rw [fr1.1 17 1 rfl, show (q_up (q_up (q_up (q_up (q_up (q_up M.1 60 97 (M.1 66 1)) 60 98 (M.1 66 2)) 60 99 (M.1 66 3)) 60 114 (h m)) 60 103 (nI (lr h m))) 60 109 (nI (m + 1)), M.2).1 18 = M.1 18 from funext fun k => fr1.1 18 k rfl]
      simp only [eg]
      simp (disch := omega) only [q_up_s, q_up_a, q_up_k, q_uc_a, q_uc_s, hc 1 (by decide), hc 2 (by decide), hc 3 (by decide)]
      generalize GC M _ _ _ _ _ _ = v
      unfold clp
      simp only [Int32.lt_iff_toInt_lt, Int32.le_iff_toInt_le, qv_0, qv_3]
      by_cases b0 : v.toInt < 0
      · rw [if_pos b0, if_neg (by omega)]
      · rw [if_neg b0, if_pos (by omega)]
        by_cases b3 : 3 < v.toInt
        · rw [if_pos b3, if_neg (by omega)]
        · rw [if_neg b3, if_pos (by omega)]
    refine q_lu (fun k i (_ : Unit) M' => qF sl sx (d + 200) 195 k 77 [some (.ref 48), some (.ref a), some (.int (nI (m + 1))), none, some (.int (nI i))] [] M') (lr h m) (fun i _ M' => 1 ≤ i ∧ M' = M) (fun o => ∃ M', o = some (some (Value.int (clp (GC M (nI (c 1)) (nI (c 2)) (nI (c 3)) (h m) (nI (lr h m)) (nI (m + 1))))), M') ∧ Fr [60, 4822] M M') (fun k i _ M' hi hI => ?_) (fun k _ M' hI => ?_) (i := 1) (s := ()) el1 (q_n1b (by omega)) ⟨Nat.le_refl _, rfl⟩
    · obtain ⟨hi1, rfl⟩ := hI
      right
      refine ⟨(), M', ⟨by omega, rfl⟩, ?_⟩
      have ni : ¬ (nI (m - i) < 0 ∨ 301 ≤ m - i) := by
        rintro (q | q)
        · exact nI_pos (by omega) q
        · omega
      rw [b_X9_rungNext_77, if_neg (nI_ge (by omega) (by omega)), nI_pred, pk_sub (by omega), qR_arI ha, nI_clamp (show m - i < 2 ^ 31 by omega), if_neg ni, qR_arI ha, nI_clamp (show m < 2 ^ 31 by omega), if_neg nm, hT _ (by omega), hT _ (Nat.le_refl m), if_pos (lr_in h m i hi), nI_1]
    · obtain ⟨hi1, rfl⟩ := hI
      rw [b_X9_rungNext_77]
      rcases Nat.lt_or_ge (lr h m) (m + 1) with q | q
      · have ho := lr_out h m
        have ni : ¬ (nI (m - lr h m) < 0 ∨ 301 ≤ m - lr h m) := by
          rintro (q | q)
          · exact nI_pos (by omega) q
          · omega
        have ne : ¬ h (m - lr h m) = h m := by
          rcases ho with u | u
          · omega
          · exact u
        rw [if_neg (nI_ge (by omega) (by omega)), nI_pred, pk_sub (by omega), qR_arI ha, nI_clamp (show m - lr h m < 2 ^ 31 by omega), if_neg ni, qR_arI ha, nI_clamp (show m < 2 ^ 31 by omega), if_neg nm, hT _ (by omega), hT _ (Nat.le_refl m), if_neg ne]
        rw [nI_pred] at fin
        exact fin
      · rw [if_pos (nI_le (by omega) (by omega))]
        exact fin
end RDAY
