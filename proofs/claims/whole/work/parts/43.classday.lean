/-! THE CLASS'S DAY: farms' numbers, towers, counts, strokes (wip/whole/f) -/
theorem q_n1b {k : Nat} (h : k < 999999) : k < q_n1 := h
def TW (M : QM) (t m : Nat) (h : Nat → Int32) : Prop := M.1 t 1 = nI m ∧ M.1 t 2 = nI (lr h m) ∧ m ≤ 300 ∧ ∀ j, j ≤ m → M.1 (t + 1) j = h j
theorem tw_fr {M M' : QM} {t m : Nat} {h : Nat → Int32} (e1 : ∀ k, M'.1 t k = M.1 t k) (e2 : ∀ k, M'.1 (t + 1) k = M.1 (t + 1) k) (hT : TW M t m h) : TW M' t m h := by
  obtain ⟨h1, h2, h3, h4⟩ := hT
  exact ⟨(e1 1).trans h1, (e1 2).trans h2, h3, fun j hj => (e2 j).trans (h4 j hj)⟩
/-- the law's code worked out -/
abbrev QEnv : Type := Int32 → Int32 → Int32 → Int32 → Int32 → Int32 → Int32
def l_push (v : Int32) (st : List Int32) : List Int32 := if st.length < 121 then v :: st else st
def l_pop (st : List Int32) : Int32 := st.headD 0
def l_join (o x y : Int32) : Int32 :=
  if o = 124 then (if x = 0 then (if y = 0 then 0 else 1) else 1)
  else if o = 38 then (if x = 0 then 0 else if y = 0 then 0 else 1)
  else if o = 60 then (if x < y then 1 else 0)
  else if o = 61 then (if x = y then 1 else 0)
  else if o = 62 then (if y < x then 1 else 0)
  else if o = 43 then x + y
  else if o = 45 then x - y
  else if o = 42 then x * y
  else if o = 47 then (if y = 0 then 0 else x / y)
  else if o = 37 then (if y = 0 then 0 else x - x / y * y)
  else 0
def l_work (o a b c r g m : Int32) (st : List Int32) : List Int32 :=
  if o = 97 then l_push a st
  else if o = 98 then l_push b st
  else if o = 99 then l_push c st
  else if o = 114 then l_push r st
  else if o = 103 then l_push g st
  else if o = 109 then l_push m st
  else if o = 33 then l_push (if l_pop st = 0 then 1 else 0) st.tail
  else if o = 126 then l_push (-(l_pop st)) st.tail
  else l_push (l_join o (l_pop st.tail) (l_pop st)) st.tail.tail
def l_run (cd : Nat → Int32) (sz : Nat) (a b c r g m : Int32) : Nat → Nat → Bool → List Int32 → Int32
  | 0, _, _, _ => 0
  | k + 1, i, sk, st =>
    if sz ≤ i then 0 else if 121 ≤ i then 0
    else if sk = true then l_run cd sz a b c r g m k (i + 1) (!(cd i == -59)) st
    else if cd i < 0 then
      (if cd i = -59 then l_pop st
       else if cd i = -63 then l_run cd sz a b c r g m k (i + 1) (l_pop st == 0) st.tail
       else l_run cd sz a b c r g m k (i + 1) false (l_work (-(cd i)) a b c r g m st))
    else l_run cd sz a b c r g m k (i + 1) false (l_push (cd i) st)
/-- what the law gives -/
def GC (M : QM) (a b c r g m : Int32) : Int32 := l_run (M.1 18) (M.1 17 1).toInt.toNat a b c r g m 122 0 false []
def ST (M : QM) : QT := fun a b c r g m => if 0 < (M.1 17 1).toInt then clp (GC M (nI a) (nI b) (nI c) r (nI g) (nI m)) else pk3 (M.1 6 50) a b c
theorem st_R (M : QM) (a b c : Nat) (r : Int32) (g m : Nat) : q_R3 (ST M a b c r g m) := by
  unfold ST
  split
  · exact clp_R _
  · exact pk3_R _ _ _ _
section CDAY
variable {sl : Nat} {sx : Nat → Int32} {d : Nat} {f t s : Nat} {M : QM} {x y z : Int32}
theorem k_slotOf (hf : qIsF f) : qK sl sx (d + 2) 17 [.ref f, .int x, .int y] M = some (some (.int (if 5 ≤ y.toInt ∧ y.toInt ≤ 7 then (if x = 0 then 50 + y - 5 else -1) else if 0 ≤ y.toInt ∧ y.toInt ≤ 4 ∧ 0 ≤ x.toInt ∧ x.toInt < (M.1 f 1).toInt then x * 5 + y else -1)), M) := by
  rw [e_X2_slotOf, b_X2_slotOf_0]
  simp only [qF_rc hf, k_isFarm hf, q_bi_s, Int32.lt_iff_toInt_lt, qv_0, qv_5, qv_7, qv_4]
  grind
theorem k_common5 (hf : qIsF f) : qK sl sx (d + 2) 20 [.ref f, .int 5] M = some (some (.int (M.1 (f + 1) 50)), M) := by
  rw [e_X2_common, b_X2_common_0]
  simp only [qF_rc hf, k_value hf, q_bi_s]
  rfl
theorem k_common6 (hf : qIsF f) : qK sl sx (d + 2) 20 [.ref f, .int 6] M = some (some (.int (M.1 (f + 1) 51)), M) := by
  rw [e_X2_common, b_X2_common_0]
  simp only [qF_rc hf, k_value hf, q_bi_s]
  rfl
theorem k_common7 (hf : qIsF f) : qK sl sx (d + 2) 20 [.ref f, .int 7] M = some (some (.int (M.1 (f + 1) 52)), M) := by
  rw [e_X2_common, b_X2_common_0]
  simp only [qF_rc hf, k_value hf, q_bi_s]
  rfl
theorem k_valueN (hf : qIsF f) {j w : Nat} {x : Int32} (hj : j < 10) (hw : w < 5) (hx : x.toInt = w) : qK sl sx (d + 1) 18 [.ref f, .int (nI j * 5 + x)] M = some (some (.int (M.1 (f + 1) (5 * j + w))), M) := by
  have e : (nI j * 5 + x).toInt = ((5 * j + w : Nat) : Int) := by
    simp (disch := omega) only [Int32.lt_iff_toInt_lt, Int32.le_iff_toInt_le, q_clamp, nI_toInt, Int.toNat_natCast, Int32.toInt_add, Int32.toInt_sub, Int32.toInt_mul, q_bm, nI_1, if_pos, if_neg, qv_0, qv_1, qv_2, qv_3, qv_4, qv_5, qv_6, qv_7, qv_8, qv_9, qv_10, qv_11, qv_12, qv_20, qv_24, qv_39, qv_40, qv_50, qv_53, qv_59, qv_60, qv_61, qv_63, qv_99, qv_100, qv_119, qv_120, qv_121, qv_255, qv_300, qv_301, qv_m1, qv_m2]
    omega
  rw [k_value hf, e, if_pos ⟨by omega, by omega⟩, Int.toNat_natCast]
theorem k_v0 (hf : qIsF f) {j : Nat} (hj : j < 10) : qK sl sx (d + 1) 18 [.ref f, .int (nI j * 5 + 0)] M = some (some (.int (M.1 (f + 1) (5 * j))), M) := k_valueN hf hj (w := 0) (by decide) (by decide)
theorem k_v1 (hf : qIsF f) {j : Nat} (hj : j < 10) : qK sl sx (d + 1) 18 [.ref f, .int (nI j * 5 + 1)] M = some (some (.int (M.1 (f + 1) (5 * j + 1))), M) := k_valueN hf hj (w := 1) (by decide) (by decide)
theorem k_v2 (hf : qIsF f) {j : Nat} (hj : j < 10) : qK sl sx (d + 1) 18 [.ref f, .int (nI j * 5 + 2)] M = some (some (.int (M.1 (f + 1) (5 * j + 2))), M) := k_valueN hf hj (w := 2) (by decide) (by decide)
theorem k_v3 (hf : qIsF f) {j : Nat} (hj : j < 10) : qK sl sx (d + 1) 18 [.ref f, .int (nI j * 5 + 3)] M = some (some (.int (M.1 (f + 1) (5 * j + 3))), M) := k_valueN hf hj (w := 3) (by decide) (by decide)
theorem k_v4 (hf : qIsF f) {j : Nat} (hj : j < 10) : qK sl sx (d + 1) 18 [.ref f, .int (nI j * 5 + 4)] M = some (some (.int (M.1 (f + 1) (5 * j + 4))), M) := k_valueN hf hj (w := 4) (by decide) (by decide)
theorem k_barks (h : 0 < y.toInt) : qK sl sx (d + 1) 23 [.int x, .int y] M = some (some (.int (if x - x / y * y = 0 then 1 else 0)), M) := by
  rw [e_X2_barks, b_X2_barks_0]
  have h0 : ¬ y = 0 := by rw [q_eqI, qv_0]; omega
  rw [if_neg h0]
  simp (disch := omega) only [Int32.lt_iff_toInt_lt, Int32.le_iff_toInt_le, q_clamp, nI_toInt, Int.toNat_natCast, Int32.toInt_add, Int32.toInt_sub, Int32.toInt_mul, q_bm, nI_1, if_pos, if_neg, qv_0, qv_1, qv_2, qv_3, qv_4, qv_5, qv_6, qv_7, qv_8, qv_9, qv_10, qv_11, qv_12, qv_20, qv_24, qv_39, qv_40, qv_50, qv_53, qv_59, qv_60, qv_61, qv_63, qv_99, qv_100, qv_119, qv_120, qv_121, qv_255, qv_300, qv_301, qv_m1, qv_m2]
  split <;> rfl
theorem k_atZ (ht : qIsT t) {m : Nat} {h : Nat → Int32} (hT : TW M t m h) {i : Nat} (e : x.toInt = (i : Int)) (hi : i ≤ m) : qK sl sx (d + 1) 75 [.ref t, .int x] M = some (some (.int (h i)), M) := by
  obtain ⟨h1, h2, h3, h4⟩ := hT
  rw [k_at ht, e, h1, nI_toInt (by omega), if_pos ⟨by omega, by omega, by omega⟩, Int.toNat_natCast, h4 i hi]
theorem k_atM (ht : qIsT t) (h : x.toInt < 0) : qK sl sx (d + 1) 75 [.ref t, .int x] M = some (some (.int 0), M) := by
  rw [k_at ht, if_neg (by omega)]
theorem k_atN (ht : qIsT t) {m : Nat} {h : Nat → Int32} (hT : TW M t m h) {i : Nat} (hi : i ≤ m) : qK sl sx (d + 1) 75 [.ref t, .int (nI i)] M = some (some (.int (h i)), M) := k_atZ ht hT (nI_toInt (by have := hT.2.2.1; omega)) hi
theorem k_atS (ht : qIsT t) {m mt F : Nat} {h : Nat → Int32} (hT : TW M t mt h) (hm : m ≤ mt) (e : x.toInt = (m : Int) - F) : qK sl sx (d + 1) 75 [.ref t, .int x] M = some (some (.int (hr h m F)), M) := by
  rw [hr]
  split
  · exact k_atZ ht hT (by omega) (by omega)
  · exact k_atM ht (by omega)
theorem k_doing (hf : qIsF f) (ht : qIsT t) {j m mt : Nat} {h : Nat → Int32} (hT : TW M t mt h) (hm : m ≤ mt) (hj : j < 10) (hR : Rg (M.1 (f + 1)) j) : qK sl sx (d + 2) 22 [.ref f, .int (nI j), .int (nI m), .ref t] M = some (some (.int (sgn (M.1 (f + 1)) j m h)), M) := by
  have h3 := hT.2.2.1
  obtain ⟨r0, r1, r2, r3, r4, r5, r6, r7, r8, r9⟩ := hR
  have a1 : ∀ d, qK sl sx (d + 1) 75 [.ref t, .int (nI m - M.1 (f + 1) (5 * j))] M = some (some (.int (hr h m (M.1 (f + 1) (5 * j)).toInt.toNat)), M) := fun d => k_atS ht hT hm (by
    simp (disch := omega) only [Int32.lt_iff_toInt_lt, Int32.le_iff_toInt_le, q_clamp, nI_toInt, Int.toNat_natCast, Int32.toInt_add, Int32.toInt_sub, Int32.toInt_mul, q_bm, nI_1, if_pos, if_neg, qv_0, qv_1, qv_2, qv_3, qv_4, qv_5, qv_6, qv_7, qv_8, qv_9, qv_10, qv_11, qv_12, qv_20, qv_24, qv_39, qv_40, qv_50, qv_53, qv_59, qv_60, qv_61, qv_63, qv_99, qv_100, qv_119, qv_120, qv_121, qv_255, qv_300, qv_301, qv_m1, qv_m2]
    omega)
  have a2 : ∀ d, qK sl sx (d + 1) 75 [.ref t, .int (nI m - M.1 (f + 1) (5 * j) - M.1 (f + 1) (5 * j + 4))] M = some (some (.int (hr h m ((M.1 (f + 1) (5 * j)).toInt.toNat + (M.1 (f + 1) (5 * j + 4)).toInt.toNat))), M) := fun d => k_atS ht hT hm (by
    simp (disch := omega) only [Int32.lt_iff_toInt_lt, Int32.le_iff_toInt_le, q_clamp, nI_toInt, Int.toNat_natCast, Int32.toInt_add, Int32.toInt_sub, Int32.toInt_mul, q_bm, nI_1, if_pos, if_neg, qv_0, qv_1, qv_2, qv_3, qv_4, qv_5, qv_6, qv_7, qv_8, qv_9, qv_10, qv_11, qv_12, qv_20, qv_24, qv_39, qv_40, qv_50, qv_53, qv_59, qv_60, qv_61, qv_63, qv_99, qv_100, qv_119, qv_120, qv_121, qv_255, qv_300, qv_301, qv_m1, qv_m2]
    omega)
  have a3 : ∀ d, qK sl sx (d + 1) 23 [.int (nI m), .int (M.1 (f + 1) (5 * j + 2) + 1)] M = some (some (.int (if nI m - nI m / (M.1 (f + 1) (5 * j + 2) + 1) * (M.1 (f + 1) (5 * j + 2) + 1) = 0 then 1 else 0)), M) := fun d => k_barks (by
    simp (disch := omega) only [Int32.lt_iff_toInt_lt, Int32.le_iff_toInt_le, q_clamp, nI_toInt, Int.toNat_natCast, Int32.toInt_add, Int32.toInt_sub, Int32.toInt_mul, q_bm, nI_1, if_pos, if_neg, qv_0, qv_1, qv_2, qv_3, qv_4, qv_5, qv_6, qv_7, qv_8, qv_9, qv_10, qv_11, qv_12, qv_20, qv_24, qv_39, qv_40, qv_50, qv_53, qv_59, qv_60, qv_61, qv_63, qv_99, qv_100, qv_119, qv_120, qv_121, qv_255, qv_300, qv_301, qv_m1, qv_m2]
    omega)
  rw [e_X2_doing, b_X2_doing_0]
  simp only [qF_rc hf, qT_rc ht, k_v0 hf hj, k_v1 hf hj, k_v2 hf hj, k_v3 hf hj, k_v4 hf hj, q_bi_s, a1, a2, a3]
  unfold sgn
  generalize hr h m (M.1 (f + 1) (5 * j)).toInt.toNat = H1
  generalize hr h m ((M.1 (f + 1) (5 * j)).toInt.toNat + (M.1 (f + 1) (5 * j + 4)).toInt.toNat) = H2
  by_cases c0 : M.1 (f + 1) (5 * j + 1) = 0
  · simp only [c0, if_true]
  by_cases c1 : M.1 (f + 1) (5 * j + 1) = 1
  · simp only [if_neg c0, if_pos c1]
  by_cases c2 : M.1 (f + 1) (5 * j + 1) = 2
  · simp only [if_neg c0, if_neg c1, if_pos c2]
    split
    · rfl
    · split <;> rfl
  by_cases c3 : M.1 (f + 1) (5 * j + 1) = 3
  · simp only [if_neg c0, if_neg c1, if_neg c2, if_pos c3]
    by_cases c : nI m - nI m / (M.1 (f + 1) (5 * j + 2) + 1) * (M.1 (f + 1) (5 * j + 2) + 1) = 0
    · simp only [if_pos c]; rfl
    · simp only [if_neg c]; rfl
  by_cases c4 : M.1 (f + 1) (5 * j + 1) = 4
  · simp only [if_neg c0, if_neg c1, if_neg c2, if_neg c3, if_pos c4]
  have c5 : M.1 (f + 1) (5 * j + 1) = 5 := by
    rw [q_eqI, qv_0] at c0
    rw [q_eqI, qv_1] at c1
    rw [q_eqI, qv_2] at c2
    rw [q_eqI, qv_3] at c3
    rw [q_eqI, qv_4] at c4
    rw [q_eqI, qv_5]
    omega
  simp only [if_neg c0, if_neg c1, if_neg c2, if_neg c3, if_neg c4, if_pos c5]
  split <;> rfl
theorem k_addT (ht : qIsT t) {m : Nat} {h h' : Nat → Int32} (hT : TW M t m h) (hm : m < 300) (e1 : ∀ j, j ≤ m → h' j = h j) (e2 : h' (m + 1) = x) : ∃ M', qK sl sx (d + 2) 74 [.ref t, .int x] M = some (none, M') ∧ Fr [t, t + 1] M M' ∧ TW M' t (m + 1) h' := by
  have hat := fun d => k_atN (sl := sl) (sx := sx) (d := d) ht hT (Nat.le_refl m)
  obtain ⟨h1, h2, h3, h4⟩ := hT
  have en : nI m + 1 = nI (m + 1) := nI_1 m
  have el := lr_b h m
  have ec : lr h' m = lr h m := lr_congr m e1
  have ex : lr h' (m + 1) = if x = h m then lr h m + 1 else 1 := by rw [lr, e2, e1 m (Nat.le_refl _), ec]
  have t1 : ∀ v : Int32, q_up (q_up M.1 t 2 v) t 1 (nI (m + 1)) t 1 = nI (m + 1) := fun v => q_up_s _ _ _ _
  have t2 : ∀ v : Int32, q_up M.1 t 2 v t 1 = nI m := fun v => by rw [q_up_k _ _ _ _ (by decide), h1]
  have nx1 : ¬ (nI (m + 1) < 0 ∨ 301 ≤ m + 1) := by
    rintro (q | q)
    · exact nI_pos (by omega) q
    · omega
  have nx2 : ¬ (Int32.ofNat 301 ≤ nI (m + 1)) := nI_ge (by omega) (by omega)
  have fin : ∀ v : Int32, v = nI (lr h' (m + 1)) → Fr [t, t + 1] M (q_up (q_up (q_up M.1 t 2 v) t 1 (nI (m + 1))) (t + 1) (m + 1) x, M.2) ∧ TW (q_up (q_up (q_up M.1 t 2 v) t 1 (nI (m + 1))) (t + 1) (m + 1) x, M.2) t (m + 1) h' := by
    intro v hv
    refine ⟨?_, ?_, ?_, by omega, ?_⟩
    · rcases ht with rfl | rfl | rfl | rfl <;> exact fr_up rfl (fr_up rfl (fr_up rfl fr_rf))
    · show q_up (q_up (q_up M.1 t 2 v) t 1 (nI (m + 1))) (t + 1) (m + 1) x t 1 = _
      simp (disch := omega) only [q_up_s, q_up_a, q_up_k, q_uc_a, q_uc_s]
    · show q_up (q_up (q_up M.1 t 2 v) t 1 (nI (m + 1))) (t + 1) (m + 1) x t 2 = _
      simp (disch := omega) only [q_up_s, q_up_a, q_up_k, q_uc_a, q_uc_s]
      exact hv
    · intro j hj
      show q_up (q_up (q_up M.1 t 2 v) t 1 (nI (m + 1))) (t + 1) (m + 1) x (t + 1) j = _
      by_cases q : j = m + 1
      · rw [q, q_up_s, e2]
      · simp (disch := omega) only [q_up_s, q_up_a, q_up_k, q_uc_a, q_uc_s]
        rw [h4 j (by omega), e1 j (by omega)]
  rw [e_X7_add, b_X7_add_0]
  simp only [qT_O ht, qT_A ht, qT_len ht, qT_rc ht, qT_arO ht, h1, hat, q_bi_s, h2, en, if_neg nx2, nI_1, t1, t2, if_neg nx1, nI_clamp (show m + 1 < 2 ^ 31 by omega)]
  by_cases c : x = h m
  · rw [if_pos c] at ex ⊢
    exact ⟨_, rfl, fin _ (by rw [ex])⟩
  · rw [if_neg c] at ex ⊢
    exact ⟨_, rfl, fin _ (by rw [ex]; rfl)⟩
theorem k_clearSigns : ∃ M', qK sl sx (d + 1) 130 [.ref 4] M = some (none, M') ∧ Fr [13] M M' ∧ ∀ v, v < 4 → M'.1 13 v = 0 := by
  rw [e_X8_clearSigns, b_X8_clearSigns_0]
  refine q_lu (fun n i (_ : Unit) M' => qF sl sx d 130 n 2 [some (.ref 4), some (.int (nI i))] [] M') 4 (fun i _ M' => Fr [13] M M' ∧ ∀ v, v < i → M'.1 13 v = 0) (fun o => ∃ M', o = some (none, M') ∧ Fr [13] M M' ∧ ∀ v, v < 4 → M'.1 13 v = 0) (fun n i _ M' hi hI => ?_) (fun n _ M' hI => ?_) (i := 0) (s := ()) (Nat.zero_le _) (q_n1b (by decide)) ⟨fr_rf, fun v hv => by omega⟩
  · right
    refine ⟨(), (q_up M'.1 13 i 0, M'.2), ⟨fr_up rfl hI.1, fun v hv => ?_⟩, ?_⟩
    · show q_up M'.1 13 i 0 13 v = 0
      by_cases q : v = i
      · rw [q, q_up_s]
      · rw [q_up_k _ _ _ _ q]
        exact hI.2 v (by omega)
    · rw [b_X8_clearSigns_2]
      simp (disch := omega) only [Int32.lt_iff_toInt_lt, Int32.le_iff_toInt_le, q_clamp, nI_toInt, Int.toNat_natCast, Int32.toInt_add, Int32.toInt_sub, Int32.toInt_mul, q_bm, nI_1, if_pos, if_neg, qv_0, qv_1, qv_2, qv_3, qv_4, qv_5, qv_6, qv_7, qv_8, qv_9, qv_10, qv_11, qv_12, qv_20, qv_24, qv_39, qv_40, qv_50, qv_53, qv_59, qv_60, qv_61, qv_63, qv_99, qv_100, qv_119, qv_120, qv_121, qv_255, qv_300, qv_301, qv_m1, qv_m2, nI_clamp]
  · refine ⟨M', ?_, hI⟩
    rw [b_X8_clearSigns_2]
    simp (disch := omega) only [Int32.lt_iff_toInt_lt, Int32.le_iff_toInt_le, q_clamp, nI_toInt, Int.toNat_natCast, Int32.toInt_add, Int32.toInt_sub, Int32.toInt_mul, q_bm, nI_1, if_pos, if_neg, qv_0, qv_1, qv_2, qv_3, qv_4, qv_5, qv_6, qv_7, qv_8, qv_9, qv_10, qv_11, qv_12, qv_20, qv_24, qv_39, qv_40, qv_50, qv_53, qv_59, qv_60, qv_61, qv_63, qv_99, qv_100, qv_119, qv_120, qv_121, qv_255, qv_300, qv_301, qv_m1, qv_m2]
theorem k_addSign (h : q_R3 x) : qK sl sx (d + 1) 131 [.ref 4, .int x, .int y] M = some (none, (q_up M.1 13 x.toInt.toNat (M.1 13 x.toInt.toNat + y), M.2)) := by
  obtain ⟨h1, h2⟩ := h
  rw [e_X8_addSign, b_X8_addSign_0]
  simp (disch := omega) only [Int32.lt_iff_toInt_lt, Int32.le_iff_toInt_le, q_clamp, nI_toInt, Int.toNat_natCast, Int32.toInt_add, Int32.toInt_sub, Int32.toInt_mul, q_bm, nI_1, if_pos, if_neg, qv_0, qv_1, qv_2, qv_3, qv_4, qv_5, qv_6, qv_7, qv_8, qv_9, qv_10, qv_11, qv_12, qv_20, qv_24, qv_39, qv_40, qv_50, qv_53, qv_59, qv_60, qv_61, qv_63, qv_99, qv_100, qv_119, qv_120, qv_121, qv_255, qv_300, qv_301, qv_m1, qv_m2]
theorem k_countSigns (hf : qIsF f) (ht : qIsT t) {n m mt : Nat} {h : Nat → Int32} (hT : TW M t mt h) (hm : m ≤ mt) (hn : n ≤ 10) (hfn : M.1 f 1 = nI n) (hR : ∀ j, j < n → Rg (M.1 (f + 1)) j) (hh : ∀ j, j ≤ m → q_R3 (h j)) : ∃ M', qK sl sx (d + 3) 132 [.ref 4, .ref f, .ref t, .int (nI m)] M = some (none, M') ∧ Fr [13] M M' ∧ ∀ v, v < 4 → M'.1 13 v = nI (cn (fun j => sgn (M.1 (f + 1)) j m h) (nI v) n) := by
  obtain ⟨M1, c1, f1, p1⟩ := k_clearSigns (sl := sl) (sx := sx) (d := d + 1) (M := M)
  rw [e_X8_countSigns, b_X8_countSigns_0, c1, q_bv_s]
  refine q_lu (fun k i (_ : Unit) M' => qF sl sx (d + 2) 132 k 7 [some (.ref 4), some (.ref f), some (.ref t), some (.int (nI m)), some (.int (nI i))] [] M') n (fun i _ M' => Fr [13] M M' ∧ ∀ v, v < 4 → M'.1 13 v = nI (cn (fun j => sgn (M.1 (f + 1)) j m h) (nI v) i)) (fun o => ∃ M', o = some (none, M') ∧ Fr [13] M M' ∧ ∀ v, v < 4 → M'.1 13 v = nI (cn (fun j => sgn (M.1 (f + 1)) j m h) (nI v) n)) (fun k i _ M' hi hI => ?_) (fun k _ M' hI => ?_) (i := 0) (s := ()) (Nat.zero_le _) (q_n1b (by omega)) ⟨f1, fun v hv => by rw [p1 v hv]; rfl⟩
  · right
    have ef : ∀ a, a ≠ 13 → a ≠ 17 → a ≠ 48 → a ≠ 14 → ∀ k, M'.1 a k = M.1 a k := fun a h1 h2 h3 h4 k => hI.1.1 a k (by simp [q_key, h1, h2, h3, h4])
    have ef1 : M'.1 (f + 1) = M.1 (f + 1) := by
      funext k
      rcases hf with rfl | rfl <;> exact ef _ (by decide) (by decide) (by decide) (by decide) k
    have ef2 : M'.1 f 1 = nI n := by rw [← hfn]; rcases hf with rfl | rfl <;> exact ef _ (by decide) (by decide) (by decide) (by decide) 1
    have hT' : TW M' t mt h := tw_fr (fun k => by rcases ht with rfl | rfl | rfl | rfl <;> exact ef _ (by decide) (by decide) (by decide) (by decide) k) (fun k => by rcases ht with rfl | rfl | rfl | rfl <;> exact ef _ (by decide) (by decide) (by decide) (by decide) k) hT
    have hs := sgn_R (hR i hi) hh
    have kd := k_doing (sl := sl) (sx := sx) (d := d) hf ht hT' hm (show i < 10 by omega) (by rw [ef1]; exact hR i hi)
    rw [ef1] at kd
    have ks := k_addSign (sl := sl) (sx := sx) (d := d + 1) (M := M') (y := 1) hs
    have hv0 : (sgn (M.1 (f + 1)) i m h).toInt.toNat < 4 := by have := hs.2; omega
    refine ⟨(), (q_up M'.1 13 (sgn (M.1 (f + 1)) i m h).toInt.toNat (M'.1 13 (sgn (M.1 (f + 1)) i m h).toInt.toNat + 1), M'.2), ⟨fr_up rfl hI.1, fun v hv => ?_⟩, ?_⟩
    rotate_left
    · rw [b_X8_countSigns_7]
      simp only [qF_O hf, qF_rc hf, ef2, kd, ks, q_bi_s, q_bv_s, if_neg (nI_ge hi (show n < 2 ^ 31 by omega)), nI_1]
    · show q_up M'.1 13 _ _ 13 v = _
      rw [cn]
      by_cases q : v = (sgn (M.1 (f + 1)) i m h).toInt.toNat
      · rw [← q, q_up_s, hI.2 v hv, nI_1, if_pos]
        rw [q]
        exact q_ofN hs.1
      · rw [q_up_k _ _ _ _ q, hI.2 v hv, if_neg]
        · rfl
        · intro e
          apply q
          show v = (sgn (M.1 (f + 1)) i m h).toInt.toNat
          have e2 : sgn (M.1 (f + 1)) i m h = nI v := e
          rw [e2, nI_toInt (by omega), Int.toNat_natCast]
  · have ef2 : M'.1 f 1 = nI n := by rw [← hfn]; rcases hf with rfl | rfl <;> exact hI.1.1 _ _ rfl
    refine ⟨M', ?_, hI⟩
    rw [b_X8_countSigns_7]
    simp only [qF_O hf, ef2, if_pos (Int32.le_refl (nI n))]
theorem k_isTold : qK sl sx (d + 1) 25 [.ref 17] M = some (some (.int (if 0 < (M.1 17 1).toInt then 1 else 0)), M) := by
  rw [e_X3_isTold, b_X3_isTold_0]
  simp only [Int32.le_iff_toInt_le, qv_0]
  grind
end CDAY
