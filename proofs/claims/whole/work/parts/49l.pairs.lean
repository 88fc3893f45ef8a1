/-! PAIRS: does, signs, ends, often, round, late (wip/whole/f) -/
/-- a loop that changes no cell -/
theorem q_lc {R σ : Type} (F : Nat → Nat → σ → Option R) (N : Nat) (st : Nat → σ) (Z : Option R) (step : ∀ k i, i < N → F (k + 1) i (st i) = F k (i + 1) (st (i + 1))) (fin : ∀ k, F (k + 1) N (st N) = Z) : ∀ i k, i ≤ N → N - i < k → F k i (st i) = Z := by
  intro i k hi hk
  induction k generalizing i with
  | zero => omega
  | succ k ih =>
    rcases Nat.lt_or_eq_of_le hi with h | h
    · rw [step k i h]
      exact ih (i + 1) h (by omega)
    · rw [h]
      exact fin k
def sf (h : Nat → Int32) : Nat → Nat
  | 0 => 0
  | k + 1 => if h k = 0 then sf h k else k + 1
theorem sf_le (h : Nat → Int32) (k : Nat) : sf h k ≤ k := by
  induction k with
  | zero => exact Nat.le_refl _
  | succ k ih => rw [sf]; split <;> omega
theorem sf_congr {h h' : Nat → Int32} (k : Nat) (e : ∀ j, j < k → h j = h' j) : sf h k = sf h' k := by
  induction k with
  | zero => rfl
  | succ k ih => rw [sf, sf, e k (Nat.lt_succ_self k), ih (fun j hj => e j (by omega))]
def enV (e : Nat) : Int32 := if e ≤ 300 then nI e else -2
def ofS (h : Nat → Int32) (v : Int32) : Nat → Int32 × Int32 × Int32
  | 0 => (0, 0, 0)
  | m + 1 => if h m = v then ((ofS h v m).1 + 1, (ofS h v m).2.1 + 1, if (ofS h v m).2.2 < (ofS h v m).2.1 + 1 then (ofS h v m).2.1 + 1 else (ofS h v m).2.2) else ((ofS h v m).1 + 0, 0, if (ofS h v m).2.2 < 0 then 0 else (ofS h v m).2.2)
def ltS (h g : Nat → Int32) : Nat → Int32 × Int32
  | 0 => (0, -2)
  | m + 1 => if h m = g m then ltS h g m else ((ltS h g m).1 + 1, if (ltS h g m).2 = -2 then nI m else (ltS h g m).2)
section DPAIRS
variable {sl : Nat} {sx : Nat → Int32} {d n s : Nat} {M : QM} {x y z : Int32}
theorem k_isFarmJ (hF : JF n M) : qK sl sx (d + 1) 16 [.ref 5, .int x] M = some (some (.int (if 0 ≤ x.toInt ∧ x.toInt < (n : Int) then 1 else 0)), M) := by
  have := k_isFarm (sl := sl) (sx := sx) (d := d) (f := 5) (M := M) (x := x) (Or.inl rfl)
  have := hF.1
  rw [hF.2.1, nI_toInt (by omega)] at *
  assumption
theorem k9_isFarmJ (hF : JF n M) : qK sl sx (d + 1) 152 [.ref 48, .int x] M = some (some (.int (if 0 ≤ x.toInt ∧ x.toInt < (n : Int) then 1 else 0)), M) := by
  have h1 := k9_isFarm (sl := sl) (sx := sx) (d := d) (M := M) (x := x)
  have := hF.1
  rw [hF.2.2.1, nI_toInt (by omega)] at h1
  exact h1
theorem k9_signP {f m : Nat} {D : Nat → Int32} (hF : JF n M) (hf : f < n) (hm : m ≤ 300) (h30 : M.1 48 30 = 0) (h31 : M.1 48 31 = -1) (h34 : M.1 48 34 = 0) (h65 : M.1 65 m = 0) (hT : ∀ j, j ≤ m → M.1 61 j = D j) : qK sl sx (d + 3) 193 [.ref 48, .int (nI f), .int (nI m)] M = some (some (.int (sgn (M.1 6) f m D)), M) := by
  have hn := hF.1
  have h := k9_sign (sl := sl) (sx := sx) (d := d) (M := M) (j := f) (m := m) (h := D) hm hT (by omega) (jf_RgR hF hf)
  have e : rG M D (M.1 62) m f = sgn (M.1 6) f m D := by
    have := rS_mute (M := M) (set := 0) (h := D) (m := m) (j := f) h30 h31 h34 h65 (by omega)
    rw [mS_0 (by omega)] at this
    exact this.trans (jf_sgn hF hf)
  rw [e] at h
  exact h
theorem p_does (x y : Int32) : QPi sl sx JA 89 199 [.int x, .int y] := by
  intro M hJ
  obtain ⟨n, b, hF, hT, hL, hC, hD, hK, hS, hH⟩ := id hJ
  have hn := hF.1
  by_cases q : 0 ≤ x.toInt ∧ x.toInt < (n : Int)
  rotate_left
  · refine ⟨-1, M, M, ?_, ?_, hJ⟩
    · rw [e_X8_does, b_X8_does_0, k_isFarmJ hF, if_neg q, q_bi_s, if_pos rfl]
    · rw [e_X9_does, b_X9_does_0, k9_isFarmJ hF, if_neg q, q_bi_s, if_pos rfl]
  by_cases r : rg y 300
  rotate_left
  · refine ⟨-1, M, M, ?_, ?_, hJ⟩
    · rw [e_X8_does, b_X8_does_0, k_isFarmJ hF, if_pos q, q_bi_s, if_neg n10, k_w300, if_neg r, q_bi_s, if_pos rfl]
    · rw [e_X9_does, b_X9_does_0, k9_isFarmJ hF, if_pos q, q_bi_s, if_neg n10, k9_isMinute, if_neg r, q_bi_s, if_pos rfl]
  obtain ⟨m, rfl, hm⟩ := rgN300 r
  obtain ⟨i1, i2⟩ := nI300 hm
  have ex : x = nI x.toInt.toNat := q_ofN q.1
  have hf : x.toInt.toNat < n := by omega
  generalize x.toInt.toNat = f at *
  subst ex
  obtain ⟨M1, a1, a2, a3⟩ := k_dayP (sl := sl) (sx := sx) (d := 992) (x := nI m) (t := 9) hF (Or.inl rfl) i1
  have f1 := fr_tY (Or.inl rfl) a2
  have hF1 := jF_fr rfl f1 hF
  obtain ⟨M2, b1, b2, b3, b4, b5, b6, b7⟩ := k9_goesPlain (sl := sl) (sx := sx) (d := 795) (x := nI m) hF1 (jL_fr rfl f1 hL) i1
  rw [i2] at a3 b3
  rw [dyP_kY f1] at b3
  refine ⟨sgn (M.1 6) f m (dyP M n), M1, M2, ?_, ?_, ja_kY b2 (ja_kY f1 hJ)⟩
  · rw [e_X8_does, b_X8_does_0, k_isFarmJ hF, if_pos q, q_bi_s, if_neg n10, k_w300, if_pos r, q_bi_s, if_neg n10, a1, q_bv_s, k_doing (Or.inl rfl) (Or.inl rfl) a3 (Nat.le_refl m) (by omega) (hF1.2.2.2.1 f hf), q_bi_s, n6_kY f1]
  · rw [e_X9_does, b_X9_does_0, k9_isFarmJ hF1, if_pos q, q_bi_s, if_neg n10, k9_isMinute, if_pos r, q_bi_s, if_neg n10, b1, q_bv_s, k9_signP (jF_fr rfl b2 hF1) hf hm b4 b5 b6 (b7 m hm) b3, q_bi_s, n6_kY b2, n6_kY f1]
theorem p_signs (x y : Int32) : QPi sl sx JA 90 200 [.int x, .int y] := by
  intro M hJ
  obtain ⟨n, b, hF, hT, hL, hC, hD, hK, hS, hH⟩ := id hJ
  have hn := hF.1
  by_cases r : rg x 300
  rotate_left
  · refine ⟨-1, M, M, ?_, ?_, hJ⟩
    · rw [e_X8_signs, b_X8_signs_0, k_w300, if_neg r, q_bi_s, if_pos rfl]
    · rw [e_X9_signs, b_X9_signs_0, k9_isMinute, if_neg r, q_bi_s, if_pos rfl]
  by_cases q : rg y 3
  rotate_left
  · refine ⟨-1, M, M, ?_, ?_, hJ⟩
    · rw [e_X8_signs, b_X8_signs_0, k_w300, if_pos r, q_bi_s, if_neg n10, k_w3, if_neg q, q_bi_s, if_pos rfl]
    · rw [e_X9_signs, b_X9_signs_0, k9_isMinute, if_pos r, q_bi_s, if_neg n10, k9_w3, if_neg q, q_bi_s, if_pos rfl]
  obtain ⟨m, rfl, hm⟩ := rgN300 r
  obtain ⟨i1, i2⟩ := nI300 hm
  obtain ⟨v, rfl, hv⟩ := rgN q
  have hv4 : v < 4 := by omega
  obtain ⟨M1, a1, a2, a3⟩ := k_dayP (sl := sl) (sx := sx) (d := 992) (x := nI m) (t := 9) hF (Or.inl rfl) i1
  have f1 := fr_tY (Or.inl rfl) a2
  have hF1 := jF_fr rfl f1 hF
  rw [i2] at a3
  have DR : ∀ j, j ≤ m → q_R3 (dyP M n j) := fun j _ => dyS_R (jf_FD hF).2.2.2.2 (st_T M) j
  obtain ⟨M2, c1, c2, c3⟩ := k_countSigns (sl := sl) (sx := sx) (d := 996) (f := 5) (t := 9) (Or.inl rfl) (Or.inl rfl) a3 (Nat.le_refl m) hn hF1.2.1 hF1.2.2.2.1 DR
  have f2 : Fr kY M1 M2 := fr_mo rfl c2
  have hF2 := jF_fr rfl f2 hF1
  obtain ⟨M3, b1, b2, b3, b4, b5, b6, b7⟩ := k9_goesPlain (sl := sl) (sx := sx) (d := 795) (x := nI m) hF2 (jL_fr rfl f2 (jL_fr rfl f1 hL)) i1
  rw [i2, dyP_kY f2, dyP_kY f1] at b3
  have hF3 := jF_fr rfl b2 hF2
  have eg : ∀ j, j < n → rG M3 (dyP M n) (M3.1 62) m j = sgn (M.1 6) j m (dyP M n) := by
    intro j hj
    have := rS_mute (M := M3) (set := 0) (h := dyP M n) (m := m) (j := j) b4 b5 b6 (b7 m hm) (by omega)
    rw [mS_0 (by omega)] at this
    have e2 := jf_sgn hF3 (m := m) (h := dyP M n) hj
    rw [n6_kY b2, n6_kY f2, n6_kY f1] at e2
    exact this.trans e2
  obtain ⟨M4, g1, g2, g3⟩ := k9_counts (sl := sl) (sx := sx) (d := 995) (M := M3) (m := m) (h := dyP M n) hm b3 hn hF3.2.2.1 (fun j hj => jf_RgR hF3 hj) (fun j hj => by rw [eg j hj]; exact sgn_R (hF.2.2.2.1 j hj) DR)
  rw [n6_kY f1] at c3
  have ev : cn (fun j => rG M3 (dyP M n) (M3.1 62) m j) (nI v) n = cn (fun j => sgn (M.1 6) j m (dyP M n)) (nI v) n := cn_congr (nI v) n eg
  have f4 : Fr kY M3 M4 := fr_mo rfl g2
  refine ⟨nI (cn (fun j => sgn (M.1 6) j m (dyP M n)) (nI v) n), M2, M4, ?_, ?_, ja_kY f4 (ja_kY b2 (ja_kY f2 (ja_kY f1 hJ)))⟩
  · rw [e_X8_signs, b_X8_signs_0, k_w300, if_pos r, q_bi_s, if_neg n10, k_w3, if_pos q, q_bi_s, if_neg n10, a1, q_bv_s, c1, q_bv_s, if_neg (nI_in (by omega) (by decide)), nI_clamp (by omega), c3 v hv4]
  · rw [e_X9_signs, b_X9_signs_0, k9_isMinute, if_pos r, q_bi_s, if_neg n10, k9_w3, if_pos q, q_bi_s, if_neg n10, b1, q_bv_s, g1, q_bv_s, if_neg (nI_in (by omega) (by decide)), nI_clamp (by omega), g3 v hv4, ev]
theorem k_silent {t : Nat} {h : Nat → Int32} (ht : qIsT t) (hT : TW M t 300 h) : qK sl sx (d + 2) 77 [.ref t] M = some (some (.int (enV (sf h 301))), M) := by
  rw [e_X7_silentFrom, b_X7_silentFrom_0, qT_O ht, hT.1, nI_1]
  have main : ∀ k N, k ≤ 301 → sf h k = sf h 301 → k < N → qF sl sx (d + 1) 77 N 7 [some (.ref t), some (.int (nI k))] [] M = some (some (.int (enV (sf h 301))), M) := by
    intro k
    induction k with
    | zero =>
      intro N hk hs hN
      obtain ⟨N, rfl⟩ : ∃ N', N = N' + 1 := ⟨N - 1, by omega⟩
      rw [b_X7_silentFrom_7, if_pos (by decide), qT_O ht, hT.1, if_pos (by decide), ← hs]
      rfl
    | succ k ih =>
      intro N hk hs hN
      obtain ⟨N, rfl⟩ : ∃ N', N = N' + 1 := ⟨N - 1, by omega⟩
      rw [b_X7_silentFrom_7, if_neg (nI_nle (by omega) (by omega)), nI_pred, qT_rc ht, k_atN ht hT (by omega), q_bi_s]
      by_cases c : h k = 0
      · rw [if_pos c, pk_m1]
        rw [sf, if_pos c] at hs
        exact ih N (by omega) hs (by omega)
      · rw [if_neg c, qT_O ht, hT.1]
        rw [sf, if_neg c] at hs
        rw [← hs]
        unfold enV
        by_cases e : k + 1 ≤ 300
        · rw [if_pos (nI_le e (by omega)), if_pos e]
        · rw [if_neg (nI_ge (by omega) (by omega)), if_neg e]
  exact main 301 q_n1 (Nat.le_refl _) rfl (q_n1b (by decide))
theorem k9_end {h : Nat → Int32} (hT : ∀ j, j ≤ 300 → M.1 61 j = h j) : qK sl sx (d + 1) 203 [.ref 48] M = some (some (.int (nI (sf h 301))), M) := by
  rw [e_X9_end, b_X9_end_0]
  have main : ∀ k N, k ≤ 301 → sf h k = sf h 301 → k < N → qF sl sx d 203 N 4 [some (.ref 48), some (.int (nI k))] [] M = some (some (.int (nI (sf h 301))), M) := by
    intro k
    induction k with
    | zero =>
      intro N hk hs hN
      obtain ⟨N, rfl⟩ : ∃ N', N = N' + 1 := ⟨N - 1, by omega⟩
      rw [b_X9_end_4, if_pos (by decide), ← hs]
      rfl
    | succ k ih =>
      intro N hk hs hN
      obtain ⟨N, rfl⟩ : ∃ N', N = N' + 1 := ⟨N - 1, by omega⟩
      rw [b_X9_end_4, if_neg (nI_nle (by omega) (by omega)), nI_pred, if_neg (nI_in (by omega) (by decide)), nI_clamp (by omega), hT k (by omega)]
      by_cases c : h k = 0
      · rw [if_pos c, pk_m1]
        rw [sf, if_pos c] at hs
        exact ih N (by omega) hs (by omega)
      · rw [if_neg c]
        rw [sf, if_neg c] at hs
        rw [← hs]
  exact main 301 q_n1 (Nat.le_refl _) rfl (q_n1b (by decide))
theorem k9_endOr {e : Nat} (he : e ≤ 301) : qK sl sx (d + 1) 204 [.ref 48, .int (nI e)] M = some (some (.int (enV e)), M) := by
  rw [e_X9_endOr, b_X9_endOr_0]
  unfold enV
  by_cases c : e ≤ 300
  · rw [if_pos (show nI e ≤ 300 by rw [Int32.le_iff_toInt_le, nI_toInt (by omega), qv_300]; omega), if_pos c]
  · rw [if_neg (show ¬ nI e ≤ 300 by rw [Int32.le_iff_toInt_le, nI_toInt (by omega), qv_300]; omega), if_neg c]
theorem n300 : (300 : Int32).toInt ≤ 300 ∧ (300 : Int32).toInt.toNat = 300 := by decide
theorem p_ends : QPi sl sx JA 92 205 [] := by
  intro M hJ
  obtain ⟨n, b, hF, hT, hL, hC, hD, hK, hS, hH⟩ := id hJ
  obtain ⟨M1, a1, a2, a3⟩ := k_dayP (sl := sl) (sx := sx) (d := 992) (x := 300) (t := 9) hF (Or.inl rfl) n300.1
  have f1 := fr_tY (Or.inl rfl) a2
  obtain ⟨M2, b1, b2, b3, _⟩ := k9_goesPlain (sl := sl) (sx := sx) (d := 795) (x := 300) (jF_fr rfl f1 hF) (jL_fr rfl f1 hL) n300.1
  rw [n300.2] at a3 b3
  rw [dyP_kY f1] at b3
  refine ⟨enV (sf (dyP M n) 301), M1, M2, ?_, ?_, ja_kY b2 (ja_kY f1 hJ)⟩
  · rw [e_X8_ends, b_X8_ends_0, a1, q_bv_s, k_silent (Or.inl rfl) a3, q_bi_s]
  · rw [e_X9_ends, b_X9_ends_0, b1, q_bv_s, k9_end b3, q_bi_s, k9_endOr (sf_le _ _), q_bi_s]
theorem k_howOften {t m : Nat} {h : Nat → Int32} (ht : qIsT t) (hT : TW M t m h) : qK sl sx (d + 2) 79 [.ref t, .int x] M = some (some (.int (ofS h x (m + 1)).1), M) := by
  have hm := hT.2.2.1
  rw [e_X7_howOften, b_X7_howOften_0]
  refine q_lc (fun k i (a : Int32) => qF sl sx (d + 1) 79 k 4 [some (.ref t), some (.int x), some (.int a), some (.int (nI i))] [] M) (m + 1) (fun i => (ofS h x i).1) _ (fun k i hi => ?_) (fun k => ?_) 0 q_n1 (Nat.zero_le _) (q_n1b (by omega))
  · rw [b_X7_howOften_4, qT_O ht, hT.1, if_neg (nI_nlt (by omega) (by omega)), qT_rc ht, k_atN ht hT (by omega), q_bi_s, nI_1]
    rw [ofS]
    by_cases c : h i = x
    · rw [if_pos c, if_pos c]
    · rw [if_neg c, if_neg c]
  · rw [b_X7_howOften_4, qT_O ht, hT.1, if_pos (nI_lt (by omega) (by omega))]
theorem k_longest {t m : Nat} {h : Nat → Int32} (ht : qIsT t) (hT : TW M t m h) : qK sl sx (d + 2) 80 [.ref t, .int x] M = some (some (.int (ofS h x (m + 1)).2.2), M) := by
  have hm := hT.2.2.1
  rw [e_X7_longest, b_X7_longest_0]
  refine q_lc (fun k i (a : Int32 × Int32) => qF sl sx (d + 1) 80 k 7 [some (.ref t), some (.int x), some (.int a.2), some (.int a.1), some (.int (nI i))] [] M) (m + 1) (fun i => (ofS h x i).2) _ (fun k i hi => ?_) (fun k => ?_) 0 q_n1 (Nat.zero_le _) (q_n1b (by omega))
  · rw [b_X7_longest_7, qT_O ht, hT.1, if_neg (nI_nlt (by omega) (by omega)), qT_rc ht, k_atN ht hT (by omega), q_bi_s, nI_1]
    rw [ofS]
    by_cases c : h i = x
    · rw [if_pos c, if_pos c]
    · rw [if_neg c, if_neg c]
  · rw [b_X7_longest_7, qT_O ht, hT.1, if_pos (nI_lt (by omega) (by omega))]
theorem k9_oftenL {m : Nat} {h : Nat → Int32} (hm : m ≤ 300) (hT : ∀ j, j ≤ m → M.1 61 j = h j) : qF sl sx (d + 1) 206 q_n1 47 [some (.ref 48), some (.int (nI m)), some (.int y), some (.int z), some (.int 0), some (.int 0), some (.int 0), some (.int 0)] [] M = some (some (.int (if z = 0 then (ofS h y (m + 1)).1 else (ofS h y (m + 1)).2.2)), M) := by
  refine q_lc (fun k i (a : Int32 × Int32 × Int32) => qF sl sx (d + 1) 206 k 47 [some (.ref 48), some (.int (nI m)), some (.int y), some (.int z), some (.int a.1), some (.int a.2.1), some (.int a.2.2), some (.int (nI i))] [] M) (m + 1) (fun i => ofS h y i) _ (fun k i hi => ?_) (fun k => ?_) 0 q_n1 (Nat.zero_le _) (q_n1b (by omega))
  · have q1 : ¬ (nI i < 0 ∨ 301 ≤ (nI i).toNatClampNeg) := nI_in (by omega) (by decide)
    rw [b_X9_often_47, if_neg (nI_nlt (by omega) (by omega)), if_neg q1, if_neg q1, if_neg q1, nI_clamp (by omega), hT i (by omega), nI_1]
    rw [ofS]
    generalize ofS h y i = a
    by_cases c : h i = y
    · rw [if_pos c, if_pos c, if_pos c, k9_one, q_bi_s, if_neg n10]
      by_cases w : a.2.1 + 1 ≤ a.2.2
      · rw [if_pos w, if_neg]
        rw [Int32.le_iff_toInt_le] at w
        rw [Int32.lt_iff_toInt_lt]
        omega
      · rw [if_neg w, if_pos]
        rw [Int32.le_iff_toInt_le] at w
        rw [Int32.lt_iff_toInt_lt]
        omega
    · rw [if_neg c, if_neg c, if_neg c, k9_one, q_bi_s, if_pos rfl]
      by_cases w : (0 : Int32) ≤ a.2.2
      · rw [if_pos w, if_neg]
        rw [Int32.le_iff_toInt_le] at w
        rw [Int32.lt_iff_toInt_lt]
        omega
      · rw [if_neg w, if_pos]
        rw [Int32.le_iff_toInt_le] at w
        rw [Int32.lt_iff_toInt_lt]
        omega
  · rw [b_X9_often_47, if_pos (nI_lt (by omega) (by omega))]
    split <;> rfl
theorem p_often (x y z : Int32) : QPi sl sx JA 93 206 [.int x, .int y, .int z] := by
  intro M hJ
  obtain ⟨n, b, hF, hT, hL, hC, hD, hK, hS, hH⟩ := id hJ
  by_cases r : rg x 300
  rotate_left
  · refine ⟨-1, M, M, ?_, ?_, hJ⟩
    · rw [e_X8_often, b_X8_often_0, k_w300, if_neg r, q_bi_s, if_pos rfl]
    · rw [e_X9_often, b_X9_often_0, k9_isMinute, if_neg r, q_bi_s, if_pos rfl]
  by_cases q : rg y 3
  rotate_left
  · refine ⟨-1, M, M, ?_, ?_, hJ⟩
    · rw [e_X8_often, b_X8_often_0, k_w300, if_pos r, q_bi_s, if_neg n10, k_w3, if_neg q, q_bi_s, if_pos rfl]
    · rw [e_X9_often, b_X9_often_0, k9_isMinute, if_pos r, q_bi_s, if_neg n10, k9_w3, if_neg q, q_bi_s, if_pos rfl]
  by_cases w : rg z 1
  rotate_left
  · refine ⟨-1, M, M, ?_, ?_, hJ⟩
    · rw [e_X8_often, b_X8_often_0, k_w300, if_pos r, q_bi_s, if_neg n10, k_w3, if_pos q, q_bi_s, if_neg n10, k_w1, if_neg w, q_bi_s, if_pos rfl]
    · rw [e_X9_often, b_X9_often_0, k9_isMinute, if_pos r, q_bi_s, if_neg n10, k9_w3, if_pos q, q_bi_s, if_neg n10, k9_w1, if_neg w, q_bi_s, if_pos rfl]
  obtain ⟨m, rfl, hm⟩ := rgN300 r
  obtain ⟨i1, i2⟩ := nI300 hm
  obtain ⟨M1, a1, a2, a3⟩ := k_dayP (sl := sl) (sx := sx) (d := 992) (x := nI m) (t := 9) hF (Or.inl rfl) i1
  have f1 := fr_tY (Or.inl rfl) a2
  obtain ⟨M2, b1, b2, b3, _⟩ := k9_goesPlain (sl := sl) (sx := sx) (d := 795) (x := nI m) (jF_fr rfl f1 hF) (jL_fr rfl f1 hL) i1
  rw [i2] at a3 b3
  rw [dyP_kY f1] at b3
  refine ⟨if z = 0 then (ofS (dyP M n) y (m + 1)).1 else (ofS (dyP M n) y (m + 1)).2.2, M1, M2, ?_, ?_, ja_kY b2 (ja_kY f1 hJ)⟩
  · rw [e_X8_often, b_X8_often_0, k_w300, if_pos r, q_bi_s, if_neg n10, k_w3, if_pos q, q_bi_s, if_neg n10, k_w1, if_pos w, q_bi_s, if_neg n10, a1, q_bv_s]
    by_cases z0 : z = 0
    · rw [if_pos z0, if_pos z0, k_howOften (Or.inl rfl) a3, q_bi_s]
    · rw [if_neg z0, if_neg z0, k_longest (Or.inl rfl) a3, q_bi_s]
  · rw [e_X9_often, b_X9_often_0, k9_isMinute, if_pos r, q_bi_s, if_neg n10, k9_w3, if_pos q, q_bi_s, if_neg n10, k9_w1, if_pos w, q_bi_s, if_neg n10, b1, q_bv_s]
    exact k9_oftenL hm b3
end DPAIRS
