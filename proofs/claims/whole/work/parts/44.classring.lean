/-! THE CLASS RINGS A DAY (wip/whole/f) -/
def fS (N : Nat → Int32) : (Nat → Int32) → Nat → Nat → Int32 := fun h m j => sgn N j m h
def FD (M : QM) (f n : Nat) : Prop := M.1 f 1 = nI n ∧ n ≤ 10 ∧ (∀ j, j < n → Rg (M.1 (f + 1)) j) ∧ M.1 (f + 1) 50 = M.1 6 50 ∧ q_R3 (M.1 (f + 1) 51)
def cD (M : QM) (f n : Nat) : Nat → Nat → Int32 := dt (M.1 (f + 1) 51) (nx (fS (M.1 (f + 1))) n (ST M))
theorem st_fr {M M' : QM} (e1 : M'.1 17 1 = M.1 17 1) (e2 : M'.1 18 = M.1 18) (e3 : M'.1 6 50 = M.1 6 50) : ST M' = ST M := by
  unfold ST GC
  rw [e1, e2, e3]
theorem nx_R (S : (Nat → Int32) → Nat → Nat → Int32) (n : Nat) (M : QM) (h : Nat → Int32) (m : Nat) : q_R3 (nx S n (ST M) h m) := st_R _ _ _ _ _ _ _
theorem cD_R {M : QM} {f n : Nat} (h : q_R3 (M.1 (f + 1) 51)) (m : Nat) : ∀ j, j ≤ m → q_R3 (cD M f n m j) := dt_R h (fun _ _ _ => nx_R _ _ _ _ _) m
section CRING
variable {sl : Nat} {sx : Nat → Int32} {d : Nat} {f t s : Nat} {M : QM} {x y z : Int32}
theorem k_nextStroke (hf : qIsF f) (ht : qIsT t) {m : Nat} {h : Nat → Int32} (hT : TW M t m h) {c : Nat → Nat} (hc : ∀ v, v < 4 → M.1 13 v = nI (c v)) (hl : ∀ v, c v ≤ 10) (hq : M.1 (f + 1) 50 = M.1 6 50) : ∃ M', qK sl sx (d + 5) 133 [.ref 4, .ref f, .ref t] M = some (some (.int (ST M (c 1) (c 2) (c 3) (h m) (lr h m) (m + 1))), M') ∧ Fr [1703, 19] M M' := by
  rw [e_X8_nextStroke, b_X8_nextStroke_0, k_isTold, q_bi_s]
  unfold ST
  by_cases c0 : 0 < (M.1 17 1).toInt
  · obtain ⟨M', g1, g2⟩ := k_gives (sl := sl) (sx := sx) (d := d) ht hT
    rw [if_pos c0, if_neg (by decide), g1, q_bi_s, hc 1 (by decide), hc 2 (by decide), hc 3 (by decide), if_pos c0]
    refine ⟨M', ?_, g2⟩
    generalize GC M _ _ _ _ _ _ = v
    unfold clp
    congr 4
    simp only [Int32.lt_iff_toInt_lt]
    by_cases a : v.toInt < (3 : Int32).toInt
    · simp only [if_pos a]
      rw [qv_3] at a
      by_cases b : (0 : Int32).toInt < v.toInt
      · rw [qv_0] at b ⊢
        rw [if_pos b, if_neg (by omega), qv_3, if_neg (by omega)]
      · rw [qv_0] at b ⊢
        rw [if_neg b, qv_3]
        by_cases e : v.toInt < 0
        · rw [if_pos e]
        · rw [if_neg e, if_neg (by omega), q_eqI, qv_0]
          omega
    · simp only [if_neg a]
      rw [qv_3] at a
      rw [qv_0, qv_3, if_pos (by decide), if_neg (by omega)]
      by_cases e : 3 < v.toInt
      · rw [if_pos e]
      · rw [if_neg e, q_eqI, qv_3]
        omega
  · rw [if_neg c0, if_pos rfl, if_neg c0]
    have hlt : ∀ v, c v < 2 ^ 31 := fun v => by have := hl v; omega
    refine ⟨M, ?_, fr_rf⟩
    obtain ⟨N0, hN0⟩ : ∃ N0, q_n1 = N0 + 1 + 1 + 1 := ⟨999996, rfl⟩
    rw [hN0, b_X8_nextStroke_36]
    have i1 : (1 : Int32).toNatClampNeg = 1 := by decide
    have i2 : (2 : Int32).toNatClampNeg = 2 := by decide
    have i3 : (3 : Int32).toNatClampNeg = 3 := by decide
    have p2 : (2 : Int32) + 1 = 3 := by decide
    have p3 : (3 : Int32) + 1 = 4 := by decide
    have n1 : ¬ ((1 : Int32) < 0 ∨ 4 ≤ 1) := by decide
    have n2 : ¬ ((2 : Int32) < 0 ∨ 4 ≤ 2) := by decide
    have n3 : ¬ ((3 : Int32) < 0 ∨ 4 ≤ 3) := by decide
    have m2 : ¬ ((3 : Int32) < 2) := by decide
    have m3 : ¬ ((3 : Int32) < 3) := by decide
    have m4 : ((3 : Int32) < 4) := by decide
    have e1 : ∀ a, nI (c a) < 1 ↔ ¬ 1 ≤ c a := fun a => by
      rw [Int32.lt_iff_toInt_lt, nI_toInt (hlt a), qv_1]
      omega
    have e2 : ∀ a b, nI (c a) ≤ nI (c b) ↔ ¬ c b < c a := fun a b => by
      rw [nI_leI (hlt a) (hlt b)]
      omega
    have e3 : ∀ a, nI (c a) < M.1 6 50 ↔ ¬ M.1 6 50 ≤ nI (c a) := fun a => by
      rw [Int32.lt_iff_toInt_lt, Int32.le_iff_toInt_le]
      omega
    rw [if_neg m2, i2, i1, if_neg n2, if_neg n1, hc 1 (by decide), hc 2 (by decide)]
    unfold pk3
    simp only [b_X8_nextStroke_36, p2, p3, m3, m4, i1, i2, i3, n1, n2, n3, if_true, if_false, hc 1 (by decide), hc 2 (by decide), hc 3 (by decide), e1, e2, e3, qF_rc hf, k_common5 hf, q_bi_s, hq]
    by_cases a1 : c 1 < c 2 <;> by_cases a2 : c 2 < c 3 <;> by_cases a3 : c 1 < c 3 <;> simp only [a1, a2, a3, if_true, if_false, not_true, not_false_eq_true]
    all_goals grind
theorem k_ringNext (hf : qIsF f) (ht : qIsT t) {n m : Nat} {h h' : Nat → Int32} (hF : FD M f n) (hT : TW M t m h) (hm : m < 300) (hh : ∀ j, j ≤ m → q_R3 (h j)) (e1 : ∀ j, j ≤ m → h' j = h j) (e2 : h' (m + 1) = nx (fS (M.1 (f + 1))) n (ST M) h m) : ∃ M', qK sl sx (d + 6) 135 [.ref 4, .ref f, .ref t] M = some (none, M') ∧ Fr [t, t + 1, 13, 1703, 19] M M' ∧ TW M' t (m + 1) h' := by
  obtain ⟨F1, F2, F3, F4, F5⟩ := hF
  obtain ⟨M1, c1, f1, p1⟩ := k_countSigns (sl := sl) (sx := sx) (d := d + 2) hf ht hT (Nat.le_refl m) F2 F1 F3 hh
  have ef : ∀ a, a ≠ 13 → a ≠ 17 → a ≠ 48 → a ≠ 14 → ∀ k, M1.1 a k = M.1 a k := fun a h1 h2 h3 h4 k => f1.1 a k (by simp [q_key, h1, h2, h3, h4])
  have hT1 : TW M1 t m h := tw_fr (fun k => by rcases ht with rfl | rfl | rfl | rfl <;> exact f1.1 _ _ rfl) (fun k => by rcases ht with rfl | rfl | rfl | rfl <;> exact f1.1 _ _ rfl) hT
  have hq1 : M1.1 (f + 1) 50 = M1.1 6 50 := by
    rw [show M1.1 6 50 = M.1 6 50 from f1.1 _ _ rfl, ← F4]
    rcases hf with rfl | rfl <;> exact f1.1 _ _ rfl
  obtain ⟨M2, c2, f2⟩ := k_nextStroke (sl := sl) (sx := sx) (d := d) hf ht hT1 (c := fun v => cn (fun j => sgn (M.1 (f + 1)) j m h) (nI v) n) p1 (fun v => by have := cn_le (fun j => sgn (M.1 (f + 1)) j m h) (nI v) n; omega) hq1
  have es : ST M1 = ST M := st_fr (f1.1 _ _ rfl) (funext fun k => f1.1 _ _ rfl) (f1.1 _ _ rfl)
  rw [es] at c2
  have hT2 : TW M2 t m h := tw_fr (fun k => by rcases ht with rfl | rfl | rfl | rfl <;> exact f2.1 _ _ rfl) (fun k => by rcases ht with rfl | rfl | rfl | rfl <;> exact f2.1 _ _ rfl) hT1
  obtain ⟨M3, c3, f3, t3⟩ := k_addT (sl := sl) (sx := sx) (d := d + 3) (x := h' (m + 1)) ht hT2 hm e1 rfl
  have ev : ST M (cn (fun j => sgn (M.1 (f + 1)) j m h) (nI 1) n) (cn (fun j => sgn (M.1 (f + 1)) j m h) (nI 2) n) (cn (fun j => sgn (M.1 (f + 1)) j m h) (nI 3) n) (h m) (lr h m) (m + 1) = h' (m + 1) := e2.symm
  refine ⟨M3, ?_, ?_, t3⟩
  · rw [e_X8_ringNext, b_X8_ringNext_0]
    simp only [qT_O ht, qT_rc ht, hT.1, c1, q_bv_s, c2, q_bi_s, ev, c3]
  · rcases ht with rfl | rfl | rfl | rfl <;> exact fr_t2 rfl rfl (fr_t2 (l := [13, 1703, 19]) rfl rfl f1 f2) f3
theorem fd_fr {M' : QM} {n : Nat} (hf : qIsF f) (ht : qIsT t) (h : Fr [t, t + 1, 13, 1703, 19] M M') (hF : FD M f n) : FD M' f n ∧ ST M' = ST M ∧ M'.1 (f + 1) = M.1 (f + 1) := by
  obtain ⟨F1, F2, F3, F4, F5⟩ := hF
  have e0 : M'.1 f 1 = M.1 f 1 := by rcases hf with rfl | rfl <;> rcases ht with rfl | rfl | rfl | rfl <;> exact h.1 _ _ rfl
  have e1 : M'.1 (f + 1) = M.1 (f + 1) := by
    funext k
    rcases hf with rfl | rfl <;> rcases ht with rfl | rfl | rfl | rfl <;> exact h.1 _ _ rfl
  have e2 : M'.1 6 = M.1 6 := by
    funext k
    rcases ht with rfl | rfl | rfl | rfl <;> exact h.1 _ _ rfl
  have e3 : M'.1 18 = M.1 18 := by
    funext k
    rcases ht with rfl | rfl | rfl | rfl <;> exact h.1 _ _ rfl
  have e4 : M'.1 17 1 = M.1 17 1 := by
    rcases ht with rfl | rfl | rfl | rfl <;> exact h.1 _ _ rfl
  refine ⟨⟨?_, F2, ?_, ?_, ?_⟩, st_fr e4 e3 (by rw [e2]), e1⟩
  · rw [e0, F1]
  · rw [e1]; exact F3
  · rw [e1, e2]; exact F4
  · rw [e1]; exact F5
theorem k_ringDay (hf : qIsF f) (ht : qIsT t) {n : Nat} (hF : FD M f n) (hx : x.toInt ≤ 300) : ∃ M', qK sl sx (d + 7) 134 [.ref 4, .ref f, .ref t, .int x] M = some (none, M') ∧ Fr [t, t + 1, 13, 1703, 19] M M' ∧ TW M' t x.toInt.toNat (cD M f n x.toInt.toNat) := by
  rw [e_X8_ringDay, b_X8_ringDay_0]
  simp only [qF_rc hf, k_common6 hf, q_bi_s, qT_rc ht, k_begin ht, q_bv_s]
  refine q_lu (fun k i (_ : Unit) M' => qF sl sx (d + 6) 134 k 13 [some (.ref 4), some (.ref f), some (.ref t), some (.int x), some (.int (nI i))] [] M') (x.toInt.toNat + 1) (fun i _ M' => 1 ≤ i ∧ Fr [t, t + 1, 13, 1703, 19] M M' ∧ TW M' t (i - 1) (cD M f n (i - 1))) (fun o => ∃ M', o = some (none, M') ∧ Fr [t, t + 1, 13, 1703, 19] M M' ∧ TW M' t x.toInt.toNat (cD M f n x.toInt.toNat)) (fun k i _ M' hi hI => ?_) (fun k _ M' hI => ?_) (i := 1) (s := ()) (by omega) (q_n1b (by omega)) ⟨Nat.le_refl 1, ?_, ?_⟩
  · obtain ⟨I1, I2, I3⟩ := hI
    right
    obtain ⟨hF', es, eN⟩ := fd_fr hf ht I2 hF
    have h5 := hF.2.2.2.2
    obtain ⟨M2, c2, f2, t2⟩ := k_ringNext (sl := sl) (sx := sx) (d := d) (h' := cD M f n i) hf ht hF' I3 (by omega) (cD_R h5 _) (fun j hj => by
        have := dt_k (M.1 (f + 1) 51) (nx (fS (M.1 (f + 1))) n (ST M)) hj
        rw [show i - 1 + 1 = i by omega] at this
        exact this) (by
        have := dt_s (M.1 (f + 1) 51) (nx (fS (M.1 (f + 1))) n (ST M)) (i - 1)
        rw [show i - 1 + 1 = i by omega] at this ⊢
        rw [es, eN]
        exact this)
    rw [show i - 1 + 1 = i by omega] at t2
    refine ⟨(), M2, ⟨by omega, fr_tr I2 f2, t2⟩, ?_⟩
    rw [b_X8_ringDay_13, if_neg, c2, q_bv_s, nI_1]
    rw [Int32.lt_iff_toInt_lt, nI_toInt (by omega)]
    omega
  · obtain ⟨I1, I2, I3⟩ := hI
    refine ⟨M', ?_, I2, I3⟩
    rw [b_X8_ringDay_13, if_pos]
    rw [Int32.lt_iff_toInt_lt, nI_toInt (by omega)]
    omega
  · rcases ht with rfl | rfl | rfl | rfl <;> exact fr_up rfl (fr_up rfl (fr_up rfl fr_rf))
  · refine ⟨?_, ?_, by omega, ?_⟩
    · show q_up (q_up (q_up M.1 (t + 1) 0 (M.1 (f + 1) 51)) t 1 0) t 2 1 t 1 = _
      simp (disch := omega) only [q_up_s, q_up_a, q_up_k, q_uc_a, q_uc_s]
      rfl
    · show q_up (q_up (q_up M.1 (t + 1) 0 (M.1 (f + 1) 51)) t 1 0) t 2 1 t 2 = _
      simp (disch := omega) only [q_up_s, q_up_a, q_up_k, q_uc_a, q_uc_s]
      rfl
    · intro j hj
      show q_up (q_up (q_up M.1 (t + 1) 0 (M.1 (f + 1) 51)) t 1 0) t 2 1 (t + 1) j = _
      have : j = 0 := by omega
      subst this
      simp (disch := omega) only [q_up_s, q_up_a, q_up_k, q_uc_a, q_uc_s]
      rfl
end CRING
