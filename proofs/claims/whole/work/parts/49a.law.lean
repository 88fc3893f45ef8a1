/-! PAIR: law (wip/whole/f) -/
theorem q_up1 (h : Nat → Nat → Int32) (g : Nat → Nat → Int64) (a k : Nat) (v : Int32) : ((q_up h a k v, g) : QM).1 a k = v := by
  show q_up h a k v a k = v
  exact q_up_s h a k v
theorem sc_fr (M : QM) (p : Nat) (b : Int32) (c : List Int32) : Fr [1402, 1403, 1405, 16] M (SC M p b c) := by
  refine ⟨fun a k e => ?_, fun a k e => rfl⟩
  show (if a = 14 ∧ k = 2 then nI p else if a = 14 ∧ k = 3 then b else if a = 14 ∧ k = 5 then nI c.length else if a = 16 ∧ k < c.length then c.getD k 0 else M.1 a k) = M.1 a k
  rw [if_neg, if_neg, if_neg, if_neg]
  · rintro ⟨rfl, _⟩; exact Bool.noConfusion (show true = false from e)
  · rintro ⟨rfl, rfl⟩; exact absurd e (by decide)
  · rintro ⟨rfl, rfl⟩; exact absurd e (by decide)
  · rintro ⟨rfl, rfl⟩; exact absurd e (by decide)
theorem sr_fr (M : QM) (p o : Nat) (r : Int32) : Fr [4822, 4823, 4824] M (SR M p o r) := by
  refine ⟨fun a k e => ?_, fun a k e => rfl⟩
  show (if a = 48 ∧ k = 22 then nI p else if a = 48 ∧ k = 23 then nI o else if a = 48 ∧ k = 24 then r else M.1 a k) = M.1 a k
  rw [if_neg, if_neg, if_neg]
  · rintro ⟨rfl, rfl⟩; exact absurd e (by decide)
  · rintro ⟨rfl, rfl⟩; exact absurd e (by decide)
  · rintro ⟨rfl, rfl⟩; exact absurd e (by decide)
theorem t_seg_of {cd : Nat → Int32} : ∀ (l : List Int32) (i : Nat), (∀ k, k < l.length → cd (i + k) = l.getD k 0) → t_seg cd i l := by
  intro l
  induction l with
  | nil => intro i _; trivial
  | cons x l ih =>
    intro i h
    rw [List.length_cons] at h
    refine ⟨by have := h 0 (by omega); exact this, ih (i + 1) (fun k hk => ?_)⟩
    have := h (k + 1) (by omega)
    rw [show i + 1 + k = i + (k + 1) by omega, this]
    rfl
theorem t_at_congr {t t' : Nat → Int32} {n : Nat} (h : ∀ i, i < n → t i = t' i) : t_at t n = t_at t' n := by
  funext p
  unfold t_at
  split
  · exact h p (by assumption)
  · rfl
theorem t_ln_1 {ch : Nat → Int32} {K p : Nat} : 1 ≤ (t_ln ch K p).2.2.1.length := by
  unfold t_ln
  split <;> (simp only [List.length_append, List.length_cons, List.length_nil]; omega)
theorem t_tx_1 {ch : Nat → Int32} {K k p : Nat} : 1 ≤ (t_tx ch K (k + 1) p).2.2.1.length := by
  have := t_ln_1 (ch := ch) (K := K) (p := p)
  rw [t_tx]
  split
  · show 1 ≤ ((t_ln ch K p).2.2.1 ++ (t_tx ch K k ((t_ln ch K p).2.1 + 1)).2.2.1).length
    rw [List.length_append]
    omega
  · exact this
section PLAW
variable {sl : Nat} {sx : Nat → Int32} {d : Nat}
theorem k_lawF {K k s : Nat} {M : QM} {T : PR} (hK : K = 42) (hk : k = 120) (hs : s ≤ 120) (hn : M.1 14 1 = nI s) (hT : T = t_tx (t_at (M.1 15) s) K (k + 1) 0) (h : ¬ (T.1 = true ∧ s ≤ T.2.1)) : qK sl sx (d + 200) 87 [.ref 4] M = some (some (.int ((-100) - nI T.2.1)), (q_up (SC M T.2.1 (if T.1 = true then 0 else 1) T.2.2.1).1 14 1 0, M.2)) := by
  have R := k_read (sl := sl) (sx := sx) (d := d + 98) hK hk hn hs
  have B := t_tx_B (t := M.1 15) (n := s) (K := K) (k + 1) 0 (Nat.zero_le _)
  rw [← hT] at R B
  rw [if_neg h] at R
  rw [e_X8_law, b_X8_law_0, show d + 199 = d + 98 + 101 by omega, R, q_bi_s]
  have ne : ¬ nI T.2.1 = -1 := by
    rw [q_eqI, nI_toInt (by omega), qv_m1]
    omega
  rw [if_neg ne, if_neg ne]
  rfl
theorem k_lawT {K k s : Nat} {M : QM} {T : PR} (hK : K = 42) (hk : k = 120) (hs : s ≤ 120) (hn : M.1 14 1 = nI s) (hT : T = t_tx (t_at (M.1 15) s) K (k + 1) 0) (h : T.1 = true ∧ s ≤ T.2.1) : ∃ M', qK sl sx (d + 200) 87 [.ref 4] M = some (some (.int 1), M') ∧ Fr [1402, 1403, 1405, 16, 18, 1701, 1401] M M' ∧ M'.1 14 1 = 0 ∧ M'.1 17 1 = nI T.2.2.1.length ∧ t_seg (M'.1 18) 0 T.2.2.1 := by
  have R := k_read (sl := sl) (sx := sx) (d := d + 98) hK hk hn hs
  have B := t_tx_B (t := M.1 15) (n := s) (K := K) (k + 1) 0 (Nat.zero_le _)
  rw [← hT] at R B
  rw [if_pos h] at R
  rw [e_X8_law, b_X8_law_0, show d + 199 = d + 98 + 101 by omega, R, q_bi_s, if_pos rfl, e_X3_become, b_X3_become_0, q_bv_s, if_pos rfl]
  refine ⟨_, rfl, ?_, ?_, ?_, ?_⟩
  · have f1 := fr_mo (l' := [1402, 1403, 1405, 16, 18, 1701, 1401]) rfl (sc_fr M T.2.1 (if T.1 = true then 0 else 1) T.2.2.1)
    exact fr_up rfl (fr_up rfl (fr_uc (fun k => rfl) f1))
  · exact q_up1 _ _ _ _ _
  · dsimp only
    rw [q_up_a _ _ _ _ (by decide), q_up_s, sc_5]
  · refine t_seg_of _ _ (fun j hj => ?_)
    dsimp only
    rw [q_up_a _ _ _ _ (by decide), q_up_a _ _ _ _ (by decide), q_uc_s]
    unfold va_cpy
    rw [if_pos (by omega)]
    show (SC M T.2.1 (if T.1 = true then 0 else 1) T.2.2.1).1 16 (0 + (0 + j - 0)) = _
    unfold SC
    simp only []
    rw [show 0 + (0 + j - 0) = j by omega, if_neg (fun q => absurd q.1 (by decide)), if_neg (fun q => absurd q.1 (by decide)), if_neg (fun q => absurd q.1 (by decide)), if_pos ⟨trivial, hj⟩]
theorem k9_lawF {K k s : Nat} {M : QM} {T : PR} (hK : K = 42) (hk : k = 120) (hs : s ≤ 120) (hn : M.1 48 4 = nI s) (hT : T = t_tx (t_at (M.1 54) s) K (k + 1) 0) (h : ¬ (T.1 = true ∧ T.2.1 = s)) : qK sl sx (d + 200) 179 [.ref 48] M = some (some (.int ((-100) - nI T.2.1)), (q_up (SR M T.2.1 0 (if T.1 = true then 1 else 0)).1 48 4 0, M.2)) := by
  obtain ⟨N, hN, R⟩ := k9_lawL (sl := sl) (sx := sx) (d := d + 149) hK hn hs k 0 q_n1 (Nat.zero_le _) (by omega) (q_n1b (by omega))
  rw [← hT, if_neg h] at R
  rw [e_X9_law, b_X9_law_0]
  have e : (q_up (q_up (q_up M.1 48 22 0) 48 23 0) 48 24 1, M.2) = SR M 0 0 1 := by
    refine Prod.ext ?_ rfl
    funext a k
    show (if a = 48 ∧ k = 24 then 1 else if a = 48 ∧ k = 23 then 0 else if a = 48 ∧ k = 22 then 0 else M.1 a k) = (SR M 0 0 1).1 a k
    unfold SR
    simp only []
    by_cases e2 : a = 48 ∧ k = 22
    · rw [if_neg (by omega), if_neg (by omega), if_pos e2, if_pos e2]; rfl
    · rw [if_neg e2, if_neg e2]
      by_cases e3 : a = 48 ∧ k = 23
      · rw [if_neg (by omega), if_pos e3, if_pos e3]; rfl
      · rw [if_neg e3, if_neg e3]
  rw [e]
  exact R
theorem k9_lawT {K k s : Nat} {M : QM} {T : PR} (hK : K = 42) (hk : k = 120) (hs : s ≤ 120) (hn : M.1 48 4 = nI s) (hT : T = t_tx (t_at (M.1 54) s) K (k + 1) 0) (h : T.1 = true ∧ T.2.1 = s) : ∃ M2, qK sl sx (d + 200) 179 [.ref 48] M = some (some (.int 1), M2) ∧ Fr [4822, 4823, 4824, 55, 4805, 4808, 4804] M M2 ∧ (∀ j, j < s → M2.1 55 j = M.1 54 j) ∧ M2.1 48 5 = nI s ∧ M2.1 48 8 = 1 ∧ M2.1 48 4 = 0 := by
  obtain ⟨N, hN, R⟩ := k9_lawL (sl := sl) (sx := sx) (d := d + 149) hK hn hs k 0 q_n1 (Nat.zero_le _) (by omega) (q_n1b (by omega))
  rw [← hT, if_pos h] at R
  rw [e_X9_law, b_X9_law_0]
  have e : (q_up (q_up (q_up M.1 48 22 0) 48 23 0) 48 24 1, M.2) = SR M 0 0 1 := by
    refine Prod.ext ?_ rfl
    funext a k
    show (if a = 48 ∧ k = 24 then 1 else if a = 48 ∧ k = 23 then 0 else if a = 48 ∧ k = 22 then 0 else M.1 a k) = (SR M 0 0 1).1 a k
    unfold SR
    simp only []
    by_cases e2 : a = 48 ∧ k = 22
    · rw [if_neg (by omega), if_neg (by omega), if_pos e2, if_pos e2]; rfl
    · rw [if_neg e2, if_neg e2]
      by_cases e3 : a = 48 ∧ k = 23
      · rw [if_neg (by omega), if_pos e3, if_pos e3]; rfl
      · rw [if_neg e3, if_neg e3]
  obtain ⟨M2, g1, g2, g3, g4, g5, g6⟩ := k9_lawC (sl := sl) (sx := sx) (d := d + 149 + 50) hs s 0 N (SR M s 0 1) (by omega) (by have := q_n1b (k := 500) (by decide); omega) hn (fun j hj => by omega)
  refine ⟨M2, ?_, fr_t2 rfl rfl (sr_fr M s 0 1) g2, g3, g4, g5, g6⟩
  rw [e]
  exact R.trans g1
theorem p_law : QPi sl sx JA 87 179 [] := by
  intro M hJ
  obtain ⟨n, b, hF, hT, hL, hC, hD, hK, hS, hH⟩ := hJ
  obtain ⟨s, t1, t2, t3, t4⟩ := hT
  obtain ⟨K, eK⟩ : ∃ K, K = 42 := ⟨42, rfl⟩
  obtain ⟨k, ek⟩ : ∃ k, k = 120 := ⟨120, rfl⟩
  obtain ⟨T, eT⟩ : ∃ T, T = t_tx (t_at (M.1 15) s) K (k + 1) 0 := ⟨_, rfl⟩
  have B := t_tx_B (t := M.1 15) (n := s) (K := K) (k + 1) 0 (Nat.zero_le _)
  have B1 := t_tx_1 (ch := t_at (M.1 15) s) (K := K) (k := k) (p := 0)
  rw [← eT] at B B1
  by_cases h : T.1 = true ∧ s ≤ T.2.1
  · obtain ⟨M1, c1, c2, c3, c4, c5⟩ := k_lawT (sl := sl) (sx := sx) (d := 800) eK ek t1 t2 eT h
    have e54 : M1.1 54 = M.1 54 := funext fun k => c2.1 54 k rfl
    have eT' : T = t_tx (t_at (M1.1 54) s) K (k + 1) 0 := by rw [e54, ← t_at_congr t4]; exact eT
    obtain ⟨M2, d1, d2, d3, d4, d5, d6⟩ := k9_lawT (sl := sl) (sx := sx) (d := 800) eK ek t1 ((c2.1 48 4 rfl).trans t3) eT' ⟨h.1, by omega⟩
    have f := fr_t2 (l := [1402, 1403, 1405, 16, 18, 1701, 1401, 4822, 4823, 4824, 55, 4805, 4808, 4804]) rfl rfl c2 d2
    refine ⟨1, M1, M2, c1, d1, n, b, jF_fr rfl f hF, ?_, ?_, jC_fr rfl f hC, jD_fr rfl f hD, jK_fr rfl f hK, jS_fr rfl f hS, jH_fr rfl f hH⟩
    · exact ⟨0, by decide, (d2.1 14 1 rfl).trans c3, d6, fun i hi => by omega⟩
    · have e17 : M2.1 17 1 = nI T.2.2.1.length := (d2.1 17 1 rfl).trans c4
      have e18 : M2.1 18 = M1.1 18 := funext fun k => d2.1 18 k rfl
      have eu : t_at (M2.1 55) s = t_at (M.1 15) s := t_at_congr (fun i hi => by rw [d3 i hi, e54, t4 i hi])
      have ez : (nI T.2.2.1.length).toInt = (T.2.2.1.length : Int) := nI_toInt (by omega)
      refine Or.inr ⟨d5, ?_, s, d4, K, k + 1, eK, by omega, t1, ?_⟩
      · rw [e17, ez]
        omega
      · rw [eu, ← eT, e17, ez, e18]
        exact ⟨h.1, by omega, by omega, c5⟩
  · have c1 := k_lawF (sl := sl) (sx := sx) (d := 800) eK ek t1 t2 eT h
    have f1 : Fr [1402, 1403, 1405, 16, 1401] M (q_up (SC M T.2.1 (if T.1 = true then 0 else 1) T.2.2.1).1 14 1 0, M.2) := fr_up rfl (fr_mo rfl (sc_fr M T.2.1 (if T.1 = true then 0 else 1) T.2.2.1))
    have g1 : (q_up (SC M T.2.1 (if T.1 = true then 0 else 1) T.2.2.1).1 14 1 0, M.2).1 14 1 = (0 : Int32) := q_up1 _ _ _ _ _
    generalize (q_up (SC M T.2.1 (if T.1 = true then 0 else 1) T.2.2.1).1 14 1 0, M.2) = M1 at c1 f1 g1
    have e54 : M1.1 54 = M.1 54 := funext fun k => f1.1 54 k rfl
    have eT' : T = t_tx (t_at (M1.1 54) s) K (k + 1) 0 := by rw [e54, ← t_at_congr t4]; exact eT
    have d1 := k9_lawF (sl := sl) (sx := sx) (d := 800) eK ek t1 ((f1.1 48 4 rfl).trans t3) eT' (fun q => h ⟨q.1, by omega⟩)
    have f2 : Fr [4822, 4823, 4824, 4804] M1 (q_up (SR M1 T.2.1 0 (if T.1 = true then 1 else 0)).1 48 4 0, M1.2) := fr_up rfl (fr_mo rfl (sr_fr M1 T.2.1 0 (if T.1 = true then 1 else 0)))
    have f := fr_t2 (l := [1402, 1403, 1405, 16, 1401, 4822, 4823, 4824, 4804]) rfl rfl f1 f2
    refine ⟨_, M1, _, c1, d1, n, b, jF_fr rfl f hF, ?_, jL_fr rfl f hL, jC_fr rfl f hC, jD_fr rfl f hD, jK_fr rfl f hK, jS_fr rfl f hS, jH_fr rfl f hH⟩
    exact ⟨0, by decide, (f2.1 14 1 rfl).trans g1, q_up1 _ _ _ _ _, fun i hi => by omega⟩
end PLAW
