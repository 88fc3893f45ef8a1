/-! WHAT THE LAW'S CODE GIVES (wip/whole/f) -/
def t_stk (h : Nat → Int32) : List Int32 → Prop
  | [] => True
  | x :: s => h s.length = x ∧ t_stk h s
theorem t_stk_up {h h' : Nat → Int32} : ∀ (s : List Int32), (∀ i, i < s.length → h' i = h i) → t_stk h s → t_stk h' s := by
  intro s
  induction s with
  | nil => intro _ _; trivial
  | cons x s ih =>
    intro e hs
    rw [List.length_cons] at e
    exact ⟨(e _ (by omega)).trans hs.1, ih (fun i hi => e i (by omega)) hs.2⟩
def SK (M : QM) (st : List Int32) : Prop := M.1 17 3 = nI st.length ∧ st.length ≤ 121 ∧ t_stk (M.1 19) st
section GIVES
variable {sl : Nat} {sx : Nat → Int32} {d : Nat} {M : QM} {st : List Int32} {x y z : Int32}
theorem k_push (h : SK M st) : ∃ M', qK sl sx (d + 1) 31 [.ref 17, .int x] M = some (none, M') ∧ SK M' (l_push x st) ∧ Fr [1703, 19] M M' := by
  obtain ⟨h1, h2, h3⟩ := h
  rw [e_X3_push, b_X3_push_0, h1, if_neg (nI_pos (by omega))]
  unfold l_push
  by_cases c : st.length < 121
  · rw [if_neg (show ¬ (121 : Int32) ≤ nI st.length by rw [Int32.le_iff_toInt_le, nI_toInt (by omega), qv_121]; omega), if_neg (nI_in c (by decide)), if_pos c]
    refine ⟨_, rfl, ⟨?_, by rw [List.length_cons]; omega, ?_, ?_⟩, fr_up rfl (fr_up rfl fr_rf)⟩
    · show q_up (q_up M.1 19 (nI st.length).toNatClampNeg x) 17 3 (nI st.length + 1) 17 3 = _
      rw [q_up_s, nI_1, List.length_cons]
    · show q_up (q_up M.1 19 (nI st.length).toNatClampNeg x) 17 3 (nI st.length + 1) 19 st.length = x
      rw [q_up_a _ _ _ _ (by decide), nI_clamp (by omega), q_up_s]
    · refine t_stk_up st (fun i hi => ?_) h3
      show q_up (q_up M.1 19 (nI st.length).toNatClampNeg x) 17 3 (nI st.length + 1) 19 i = M.1 19 i
      rw [q_up_a _ _ _ _ (by decide), nI_clamp (by omega), q_up_k _ _ _ _ (by omega)]
  · rw [if_pos (show (121 : Int32) ≤ nI st.length by rw [Int32.le_iff_toInt_le, nI_toInt (by omega), qv_121]; omega), if_neg c]
    exact ⟨M, rfl, ⟨h1, h2, h3⟩, fr_rf⟩
theorem k_pop (h : SK M st) : ∃ M', qK sl sx (d + 1) 32 [.ref 17] M = some (some (.int (l_pop st)), M') ∧ SK M' st.tail ∧ Fr [1703, 19] M M' := by
  obtain ⟨h1, h2, h3⟩ := h
  rw [e_X3_pop, b_X3_pop_0]
  simp only [q_up_s]
  rw [h1]
  cases st with
  | nil => 
    rw [if_pos (show nI ([] : List Int32).length < 1 by decide)]
    exact ⟨M, rfl, ⟨h1, h2, h3⟩, fr_rf⟩
  | cons v st =>
    rw [List.length_cons] at h1 h2 ⊢
    rw [if_neg (show ¬ nI (st.length + 1) < 1 by rw [Int32.lt_iff_toInt_lt, nI_toInt (by omega), qv_1]; omega), if_pos (show nI (st.length + 1) ≤ 121 by rw [Int32.le_iff_toInt_le, nI_toInt (by omega), qv_121]; omega), nI_pred, if_neg (nI_in (show st.length < 121 by omega) (by decide)), nI_clamp (by omega), h3.1]
    refine ⟨_, rfl, ⟨?_, ?_, ?_⟩, fr_up rfl fr_rf⟩
    · show q_up M.1 17 3 (nI st.length) 17 3 = _
      rw [q_up_s]
      rfl
    · show st.length ≤ 121
      omega
    · refine t_stk_up st (fun i hi => ?_) h3.2
      show q_up M.1 17 3 (nI st.length) 19 i = M.1 19 i
      rw [q_up_a _ _ _ _ (by decide)]
theorem k_joined : qK sl sx (d + 1) 30 [.int x, .int y, .int z] M = some (some (.int (l_join x y z)), M) := by
  rw [e_X3_joined, b_X3_joined_0]
  unfold l_join
  by_cases c1 : x = 37
  · subst c1; simp (config := {decide := true}) only [if_true, if_false]; split <;> rfl
  by_cases c2 : x = 38
  · subst c2; simp (config := {decide := true}) only [if_true, if_false]; split; rfl; split <;> rfl
  by_cases c3 : x = 42
  · subst c3; simp (config := {decide := true}) only [if_true, if_false]
  by_cases c4 : x = 43
  · subst c4; simp (config := {decide := true}) only [if_true, if_false]
  by_cases c5 : x = 45
  · subst c5; simp (config := {decide := true}) only [if_true, if_false]
  by_cases c6 : x = 47
  · subst c6; simp (config := {decide := true}) only [if_true, if_false]; split <;> rfl
  by_cases c7 : x = 60
  · subst c7; simp (config := {decide := true}) only [if_true, if_false, Int32.le_iff_toInt_le, Int32.lt_iff_toInt_lt]
    by_cases q : y.toInt < z.toInt
    · rw [if_pos q, if_neg (by omega)]
    · rw [if_neg q, if_pos (by omega)]
  by_cases c8 : x = 61
  · subst c8; simp (config := {decide := true}) only [if_true, if_false]; split <;> rfl
  by_cases c9 : x = 62
  · subst c9; simp (config := {decide := true}) only [if_true, if_false, Int32.le_iff_toInt_le, Int32.lt_iff_toInt_lt]
    by_cases q : z.toInt < y.toInt
    · rw [if_pos q, if_neg (by omega)]
    · rw [if_neg q, if_pos (by omega)]
  by_cases c10 : x = 124
  · subst c10; simp (config := {decide := true}) only [if_true, if_false]; split; split <;> rfl; rfl
  simp only [if_neg c1, if_neg c2, if_neg c3, if_neg c4, if_neg c5, if_neg c6, if_neg c7, if_neg c8, if_neg c9, if_neg c10]
theorem k_howMany {v : Nat} (h : v < 4) : qK sl sx (d + 1) 29 [.ref 13, .int (nI v)] M = some (some (.int (M.1 13 v)), M) := by
  rw [e_X3_howMany, b_X3_howMany_0, if_neg (nI_pos (by omega)), if_neg (show ¬ (4 : Int32) ≤ nI v by rw [Int32.le_iff_toInt_le, nI_toInt (by omega), qv_4]; omega), if_neg (nI_in h (by decide)), nI_clamp (by omega)]
theorem k_pushV (h : SK M st) : ∃ M', (q_bv (qK sl sx (d + 1) 31 [.ref 17, .int x] M) (fun M' => some (none, M')) : Option (Option Value × QM)) = some (none, M') ∧ SK M' (l_push x st) ∧ Fr [1703, 19] M M' := by
  obtain ⟨M1, h1, h2, h3⟩ := k_push (sl := sl) (sx := sx) (d := d) (x := x) h
  exact ⟨M1, by rw [h1, q_bv_s], h2, h3⟩
theorem k_workOut {t m : Nat} {h : Nat → Int32} (ht : qIsT t) (hT : TW M t m h) (hS : SK M st) : ∃ M', qK sl sx (d + 2) 28 [.ref 17, .int x, .ref 13, .ref t] M = some (none, M') ∧ SK M' (l_work x (M.1 13 1) (M.1 13 2) (M.1 13 3) (h m) (nI (lr h m)) (nI (m + 1)) st) ∧ Fr [1703, 19] M M' := by
  have f2 : ∀ {A B C : QM}, Fr [1703, 19] A B → Fr [1703, 19] B C → Fr [1703, 19] A C := fun h1 h2 => fr_tr h1 h2
  rw [e_X3_workOut, b_X3_workOut_0]
  unfold l_work
  obtain ⟨M1, p1, p2, p3⟩ := k_pop (sl := sl) (sx := sx) (d := d) hS
  by_cases c1 : x = 33
  · subst c1
    simp (config := {decide := true}) only [if_true, if_false, p1, q_bi_s]
    by_cases q : l_pop st = 0
    · simp only [q, if_true]
      obtain ⟨M2, r1, r2, r3⟩ := k_pushV (sl := sl) (sx := sx) (d := d) (x := 1) p2
      exact ⟨M2, r1, r2, f2 p3 r3⟩
    · simp only [q, if_false]
      obtain ⟨M2, r1, r2, r3⟩ := k_pushV (sl := sl) (sx := sx) (d := d) (x := 0) p2
      exact ⟨M2, r1, r2, f2 p3 r3⟩
  by_cases c2 : x = 97
  · subst c2
    simp (config := {decide := true}) only [if_true, if_false]
    rw [show ((97 : Int32) - 97 + 1) = nI 1 by decide, k_howMany (by decide), q_bi_s]
    exact k_pushV hS
  by_cases c3 : x = 98
  · subst c3
    simp (config := {decide := true}) only [if_true, if_false]
    rw [show ((98 : Int32) - 97 + 1) = nI 2 by decide, k_howMany (by decide), q_bi_s]
    exact k_pushV hS
  by_cases c4 : x = 99
  · subst c4
    simp (config := {decide := true}) only [if_true, if_false]
    rw [show ((99 : Int32) - 97 + 1) = nI 3 by decide, k_howMany (by decide), q_bi_s]
    exact k_pushV hS
  by_cases c5 : x = 103
  · subst c5
    simp (config := {decide := true}) only [if_true, if_false, qT_O ht, hT.2.1]
    exact k_pushV hS
  by_cases c6 : x = 109
  · subst c6
    simp (config := {decide := true}) only [if_true, if_false, qT_O ht, hT.1, nI_1]
    exact k_pushV hS
  by_cases c7 : x = 114
  · subst c7
    simp (config := {decide := true}) only [if_true, if_false, qT_O ht, qT_rc ht, hT.1, k_atN ht hT (Nat.le_refl m), q_bi_s]
    exact k_pushV hS
  by_cases c8 : x = 126
  · subst c8
    simp (config := {decide := true}) only [if_true, if_false, p1, q_bi_s]
    obtain ⟨M2, r1, r2, r3⟩ := k_pushV (sl := sl) (sx := sx) (d := d) (x := -(l_pop st)) p2
    exact ⟨M2, r1, r2, f2 p3 r3⟩
  simp only [if_neg c1, if_neg c2, if_neg c3, if_neg c4, if_neg c5, if_neg c6, if_neg c7, if_neg c8, p1, q_bi_s]
  obtain ⟨M2, s1, s2, s3⟩ := k_pop (sl := sl) (sx := sx) (d := d) p2
  rw [s1, q_bi_s, k_joined, q_bi_s]
  obtain ⟨M3, r1, r2, r3⟩ := k_pushV (sl := sl) (sx := sx) (d := d) (x := l_join x (l_pop st.tail) (l_pop st)) s2
  exact ⟨M3, r1, r2, f2 (f2 p3 s3) r3⟩
theorem k_givesL {t m : Nat} {h : Nat → Int32} (ht : qIsT t) (M0 : QM) : ∀ (k i : Nat) (sk : Bool) (st : List Int32) (M : QM) (n : Nat), 122 ≤ k + i → i ≤ 121 → k < n → SK M st → TW M t m h → Fr [1703, 19] M0 M → ∃ M', qF sl sx (d + 3) 27 n 10 [some (.ref 17), some (.ref 13), some (.ref t), some (.int (if sk = true then 1 else 0)), some (.int (nI i)), none] [] M = some (some (.int (l_run (M0.1 18) (M0.1 17 1).toInt.toNat (M0.1 13 1) (M0.1 13 2) (M0.1 13 3) (h m) (nI (lr h m)) (nI (m + 1)) k i sk st)), M') ∧ Fr [1703, 19] M0 M' := by
  intro k
  induction k with
  | zero => intro i sk st M n h1 h2; omega
  | succ k ih =>
    intro i sk st M n h1 h2 h3 hS hT hf
    obtain ⟨n, rfl⟩ : ∃ n', n = n' + 1 := ⟨n - 1, by omega⟩
    have fT : ∀ {M' : QM}, Fr [1703, 19] M M' → TW M' t m h := fun g => tw_fr (fun k => by rcases ht with rfl | rfl | rfl | rfl <;> exact g.1 _ _ rfl) (fun k => by rcases ht with rfl | rfl | rfl | rfl <;> exact g.1 _ _ rfl) hT
    rw [b_X3_gives_10, l_run, hf.1 17 1 rfl]
    have e18 : ∀ j, M.1 18 j = M0.1 18 j := fun j => hf.1 18 j rfl
    have g1 : M.1 13 1 = M0.1 13 1 := hf.1 13 1 rfl
    have g2 : M.1 13 2 = M0.1 13 2 := hf.1 13 2 rfl
    have g3 : M.1 13 3 = M0.1 13 3 := hf.1 13 3 rfl
    by_cases c1 : (M0.1 17 1).toInt.toNat ≤ i
    · rw [if_pos (show M0.1 17 1 ≤ nI i by rw [Int32.le_iff_toInt_le, nI_toInt (by omega)]; omega), if_pos c1]
      exact ⟨M, rfl, hf⟩
    rw [if_neg (show ¬ M0.1 17 1 ≤ nI i by rw [Int32.le_iff_toInt_le, nI_toInt (by omega)]; omega), if_neg c1]
    by_cases c2 : 121 ≤ i
    · rw [if_pos (show (121 : Int32) ≤ nI i by rw [Int32.le_iff_toInt_le, nI_toInt (by omega), qv_121]; omega), if_pos c2]
      exact ⟨M, rfl, hf⟩
    rw [if_neg (show ¬ (121 : Int32) ≤ nI i by rw [Int32.le_iff_toInt_le, nI_toInt (by omega), qv_121]; omega), if_neg c2, if_neg (nI_in (show i < 121 by omega) (by decide)), nI_clamp (by omega), nI_1, e18]
    cases sk with
    | true =>
      rw [if_neg (show ¬ ((if (true : Bool) = true then (1 : Int32) else 0) = 0) by decide), if_pos rfl]
      by_cases c3 : M0.1 18 i = -59
      · rw [if_pos c3, c3]
        exact ih (i + 1) false st M n (by omega) (by omega) (by omega) hS hT hf
      · have : (M0.1 18 i == -59) = false := by rw [beq_eq_false_iff_ne]; exact c3
        rw [if_neg c3, this]
        exact ih (i + 1) true st M n (by omega) (by omega) (by omega) hS hT hf
    | false =>
      simp only [Bool.false_eq_true, if_false, if_true]
      by_cases c3 : M0.1 18 i < 0
      · rw [if_pos c3, if_pos c3]
        by_cases c4 : M0.1 18 i = -59
        · obtain ⟨M1, p1, p2, p3⟩ := k_pop (sl := sl) (sx := sx) (d := d + 2) hS
          rw [if_pos c4, if_pos c4, p1, q_bi_s]
          exact ⟨M1, rfl, fr_tr hf p3⟩
        · rw [if_neg c4, if_neg c4]
          by_cases c5 : M0.1 18 i = -63
          · obtain ⟨M1, p1, p2, p3⟩ := k_pop (sl := sl) (sx := sx) (d := d + 2) hS
            rw [if_pos c5, if_pos c5, p1, q_bi_s]
            by_cases c6 : l_pop st = 0
            · rw [if_pos c6, c6]
              exact ih (i + 1) true st.tail M1 n (by omega) (by omega) (by omega) p2 (fT p3) (fr_tr hf p3)
            · have : (l_pop st == 0) = false := by rw [beq_eq_false_iff_ne]; exact c6
              rw [if_neg c6, this]
              exact ih (i + 1) false st.tail M1 n (by omega) (by omega) (by omega) p2 (fT p3) (fr_tr hf p3)
          · rw [if_neg c5, if_neg c5]
            obtain ⟨M1, p1, p2, p3⟩ := k_workOut (sl := sl) (sx := sx) (d := d + 1) (x := -(M0.1 18 i)) ht hT hS
            rw [p1, q_bv_s]
            rw [g1, g2, g3] at p2
            exact ih (i + 1) false _ M1 n (by omega) (by omega) (by omega) p2 (fT p3) (fr_tr hf p3)
      · rw [if_neg c3, if_neg c3]
        obtain ⟨M1, p1, p2, p3⟩ := k_push (sl := sl) (sx := sx) (d := d + 2) (x := M0.1 18 i) hS
        rw [p1, q_bv_s]
        exact ih (i + 1) false _ M1 n (by omega) (by omega) (by omega) p2 (fT p3) (fr_tr hf p3)
theorem k_gives {t m : Nat} {h : Nat → Int32} (ht : qIsT t) (hT : TW M t m h) : ∃ M', qK sl sx (d + 4) 27 [.ref 17, .ref 13, .ref t] M = some (some (.int (GC M (M.1 13 1) (M.1 13 2) (M.1 13 3) (h m) (nI (lr h m)) (nI (m + 1)))), M') ∧ Fr [1703, 19] M M' := by
  rw [e_X3_gives, b_X3_gives_0]
  have hf : Fr [1703, 19] M (q_up M.1 17 3 0, M.2) := fr_up rfl fr_rf
  exact k_givesL ht M 122 0 false [] (q_up M.1 17 3 0, M.2) q_n1 (by decide) (by decide) (q_n1b (by decide)) ⟨by show q_up M.1 17 3 0 17 3 = _; rw [q_up_s]; rfl, by decide, trivial⟩ (tw_fr (fun k => by rcases ht with rfl | rfl | rfl | rfl <;> exact hf.1 _ _ rfl) (fun k => by rcases ht with rfl | rfl | rfl | rfl <;> exact hf.1 _ _ rfl) hT) hf
end GIVES
