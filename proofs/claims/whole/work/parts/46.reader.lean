/-! THE CLASS READS ITS TAPE (wip/whole/f) -/
def SC (M : QM) (p : Nat) (b : Int32) (c : List Int32) : QM := (fun a k => if a = 14 ∧ k = 2 then nI p else if a = 14 ∧ k = 3 then b else if a = 14 ∧ k = 5 then nI c.length else if a = 16 ∧ k < c.length then c.getD k 0 else M.1 a k, M.2)
theorem sc_2 (M : QM) (p : Nat) (b : Int32) (c : List Int32) : (SC M p b c).1 14 2 = nI p := rfl
theorem sc_3 (M : QM) (p : Nat) (b : Int32) (c : List Int32) : (SC M p b c).1 14 3 = b := rfl
theorem sc_5 (M : QM) (p : Nat) (b : Int32) (c : List Int32) : (SC M p b c).1 14 5 = nI c.length := rfl
theorem sc_1 (M : QM) (p : Nat) (b : Int32) (c : List Int32) : (SC M p b c).1 14 1 = M.1 14 1 := rfl
theorem sc_15 (M : QM) (p : Nat) (b : Int32) (c : List Int32) : (SC M p b c).1 15 = M.1 15 := rfl
theorem sc_up (M : QM) (p p' : Nat) (b : Int32) (c : List Int32) : (q_up (SC M p b c).1 14 2 (nI p'), (SC M p b c).2) = SC M p' b c := by
  refine Prod.ext ?_ rfl
  funext a k
  show (if a = 14 ∧ k = 2 then nI p' else (SC M p b c).1 a k) = (SC M p' b c).1 a k
  unfold SC
  simp only []
  by_cases e : a = 14 ∧ k = 2
  · rw [if_pos e, if_pos e]
  · rw [if_neg e, if_neg e, if_neg e]
theorem sc_br (M : QM) (p : Nat) (b b' : Int32) (c : List Int32) : (q_up (SC M p b c).1 14 3 b', (SC M p b c).2) = SC M p b' c := by
  refine Prod.ext ?_ rfl
  funext a k
  show (if a = 14 ∧ k = 3 then b' else (SC M p b c).1 a k) = (SC M p b' c).1 a k
  unfold SC
  simp only []
  by_cases e : a = 14 ∧ k = 3
  · rw [if_pos e, if_neg (by omega), if_pos e]
  · rw [if_neg e, if_neg e, if_neg e]
theorem sc_em (M : QM) (p : Nat) (b x : Int32) (c : List Int32) : (q_up (q_up (SC M p b c).1 16 c.length x) 14 5 (nI (c.length + 1)), (SC M p b c).2) = SC M p b (c ++ [x]) := by
  refine Prod.ext ?_ rfl
  funext a k
  show (if a = 14 ∧ k = 5 then nI (c.length + 1) else if a = 16 ∧ k = c.length then x else (SC M p b c).1 a k) = (SC M p b (c ++ [x])).1 a k
  unfold SC
  simp only [List.length_append, List.length_cons, List.length_nil, Nat.zero_add]
  by_cases e5 : a = 14 ∧ k = 5
  · rw [if_pos e5, if_neg (by omega), if_neg (by omega), if_pos e5]
  · rw [if_neg e5, if_neg e5]
    by_cases e6 : a = 16 ∧ k = c.length
    · rw [if_pos e6, if_neg (by omega), if_neg (by omega), if_neg e5, if_pos ⟨e6.1, by omega⟩, e6.2]
      simp [List.getD_eq_getElem?_getD]
    · rw [if_neg e6]
      by_cases e2 : a = 14 ∧ k = 2
      · rw [if_pos e2, if_pos e2]
      · rw [if_neg e2, if_neg e2]
        by_cases e3 : a = 14 ∧ k = 3
        · rw [if_pos e3, if_pos e3]
        · rw [if_neg e3, if_neg e3, if_neg e5]
          by_cases e7 : a = 16 ∧ k < c.length
          · rw [if_pos e7, if_pos ⟨e7.1, by omega⟩, List.getD_eq_getElem?_getD, List.getD_eq_getElem?_getD, List.getElem?_append_left e7.2]
          · rw [if_neg e7, if_neg (by omega)]
section READ
variable {sl : Nat} {sx : Nat → Int32} {d n p : Nat} {M : QM} {x b : Int32} {c : List Int32}
theorem k_sign (hn : M.1 14 1 = nI n) (h : n ≤ 120) (hp : p ≤ n) : qK sl sx (d + 1) 36 [.ref 14] (SC M p b c) = some (some (.int (t_at (M.1 15) n p)), SC M p b c) := by
  rw [e_X4_sign, b_X4_sign_0, sc_2, sc_1, hn, sc_15, if_neg (nI_pos (by omega))]
  unfold t_at
  by_cases q : p < n
  · rw [if_neg (nI_ge q (by omega)), if_neg (show ¬ (120 : Int32) ≤ nI p by rw [Int32.le_iff_toInt_le, nI_toInt (by omega), qv_120]; omega), if_neg (nI_in (show p < 120 by omega) (by decide)), if_pos q, nI_clamp (by omega)]
  · rw [if_pos (nI_le (by omega) (by omega)), if_neg q]
theorem k_emit (h : c.length ≤ 120) : qK sl sx (d + 1) 37 [.ref 14, .int x] (SC M p b c) = some (none, SC M p b (c ++ [x])) := by
  rw [e_X4_emit, b_X4_emit_0, sc_5, if_neg (show ¬ (121 : Int32) ≤ nI c.length by rw [Int32.le_iff_toInt_le, nI_toInt (by omega), qv_121]; omega), if_neg (nI_in (show c.length < 121 by omega) (by decide)), nI_clamp (by omega), nI_1, sc_em]
theorem k_belongs {l : Nat} (hl : l < 5) : qK sl sx (d + 1) 40 [.int x, .int (nI l)] M = some (some (.int (if t_bel l x = true then 1 else 0)), M) := by
  rw [e_X4_belongs, b_X4_belongs_0]
  have hl' : l = 0 ∨ l = 1 ∨ l = 2 ∨ l = 3 ∨ l = 4 := by omega
  rcases hl' with rfl | rfl | rfl | rfl | rfl <;> simp (config := {decide := true}) only [t_bel, Bool.or_eq_true, beq_iff_eq, if_true, if_false] <;> grind
theorem k_isDigit : qK sl sx (d + 1) 44 [.int x] M = some (some (.int (if t_dig x then 1 else 0)), M) := by
  rw [e_X4_isDigit, b_X4_isDigit_0]
  by_cases h1 : x < 48
  · rw [if_pos h1, if_neg (fun h => h.1 h1)]
  · rw [if_neg h1]
    by_cases h2 : 57 < x
    · rw [if_pos h2, if_neg (fun h => h.2 h2)]
    · rw [if_neg h2, if_pos ⟨h1, h2⟩]
theorem k_isName : qK sl sx (d + 1) 45 [.int x] M = some (some (.int (if t_nam x then 1 else 0)), M) := by
  rw [e_X4_isName, b_X4_isName_0]
  grind
theorem k_readNumberL (hn : M.1 14 1 = nI n) (h : n ≤ 120) (hc : c.length ≤ 120) : ∀ (k p i N : Nat) (v : Int32), p ≤ n → k + i = 4 → k < N → qF sl sx (d + 1) 43 N 4 [some (.ref 14), some (.int v), some (.int (nI i))] [] (SC M p b c) = some (none, SC M (t_num (t_at (M.1 15) n) k p v).1 b (c ++ [(t_num (t_at (M.1 15) n) k p v).2])) := by
  intro k
  induction k with
  | zero =>
    intro p i N v hp hi hN
    obtain ⟨N, rfl⟩ : ∃ N', N = N' + 1 := ⟨N - 1, by omega⟩
    rw [b_X4_readNumber_4, show i = 4 by omega, if_pos (show (4 : Int32) ≤ nI 4 by decide), k_emit hc, q_bv_s]
    rfl
  | succ k ih =>
    intro p i N v hp hi hN
    obtain ⟨N, rfl⟩ : ∃ N', N = N' + 1 := ⟨N - 1, by omega⟩
    rw [t_num, b_X4_readNumber_4, if_neg (show ¬ (4 : Int32) ≤ nI i by rw [Int32.le_iff_toInt_le, nI_toInt (by omega), qv_4]; omega), k_sign hn h hp, q_bi_s, k_isDigit, q_bi_s]
    by_cases q : t_dig (t_at (M.1 15) n p)
    · rw [if_pos q, if_pos q, if_neg (by decide), k_sign hn h hp, q_bi_s, sc_2, nI_1, nI_1, sc_up]
      exact ih (p + 1) (i + 1) N _ (t_dig_lt q) (by omega) (by omega)
    · rw [if_neg q, if_neg q, if_pos rfl, k_emit hc, q_bv_s]
theorem k_readNumber (hn : M.1 14 1 = nI n) (h : n ≤ 120) (hc : c.length ≤ 120) (hp : p ≤ n) : qK sl sx (d + 2) 43 [.ref 14] (SC M p b c) = some (none, SC M (t_num (t_at (M.1 15) n) 4 p 0).1 b (c ++ [(t_num (t_at (M.1 15) n) 4 p 0).2])) := by
  rw [e_X4_readNumber, b_X4_readNumber_0]
  exact k_readNumberL hn h hc 4 p 0 q_n1 0 hp rfl (q_n1b (by decide))
/-- what a method that reads does: it ends where the text's thing ends, with its code laid behind -/
abbrev t_fb (q : PR) : Int32 := if q.1 = true then 0 else 1
def RK (sl : Nat) (sx : Nat → Int32) (D j n : Nat) (M : QM) (as : List Value) (nx : Nat → PR) : Prop := ∀ p c, p ≤ n → c.length ≤ p → qK sl sx D j as (SC M p 0 c) = some (none, SC M (nx p).2.1 (t_fb (nx p)) (c ++ (nx p).2.2.1))
theorem rk_loop {l o : Nat} {nx : Nat → PR} (hl : l < 5) (hn : M.1 14 1 = nI n) (h : n ≤ 120) (hB : ∀ p, p ≤ n → t_B n p (nx p)) (hR : RK sl sx (d + 2) 39 n M [.ref 14, .int (nI l + 1), .int (nI o)] nx) {q e : Nat} (he : e ≤ 120) :
    ∀ (f : Nat) (r : PR) (i N : Nat) (c : List Int32), t_B n q r → c.length ≤ q → f + i = e → f < N → qF sl sx (d + 2) 39 N 34 [some (.ref 14), some (.int (nI l)), some (.int (nI o)), some (.int (nI e)), some (.int (nI i)), none] [] (SC M r.2.1 (t_fb r) (c ++ r.2.2.1)) = some (none, SC M (t_lp (t_at (M.1 15) n) nx l f r).2.1 (t_fb (t_lp (t_at (M.1 15) n) nx l f r)) (c ++ (t_lp (t_at (M.1 15) n) nx l f r).2.2.1)) := by
  intro f
  induction f with
  | zero =>
    intro r i N c hr hc hi hN
    obtain ⟨N, rfl⟩ : ∃ N', N = N' + 1 := ⟨N - 1, by omega⟩
    rw [b_X4_readLevel_34, if_pos (nI_le (by omega) (by omega))]
    rfl
  | succ f ih =>
    intro r i N c hr hc hi hN
    obtain ⟨N, rfl⟩ : ∃ N', N = N' + 1 := ⟨N - 1, by omega⟩
    rw [b_X4_readLevel_34, if_neg (nI_ge (by omega) (by omega)), sc_3]
    by_cases r1 : r.1 = true
    · rw [if_pos (show t_fb r = 0 from if_pos r1), k_sign hn h hr.2.1, q_bi_s, k_belongs hl, q_bi_s]
      by_cases w : t_bel l (t_at (M.1 15) n r.2.1) = true
      · have lt := t_at_lt (t_bel_ne w).1
        have hB' : t_B n q (t_lp (t_at (M.1 15) n) nx l 1 r) := t_lp_B hB 1 r hr
        have e1 : t_lp (t_at (M.1 15) n) nx l 1 r = t_bn (t_at (M.1 15) n r.2.1) r (nx (r.2.1 + 1)) := by
          rw [t_lp, if_pos ⟨r1, w⟩]; rfl
        have e2 : t_lp (t_at (M.1 15) n) nx l (f + 1) r = t_lp (t_at (M.1 15) n) nx l f (t_bn (t_at (M.1 15) n r.2.1) r (nx (r.2.1 + 1))) := by
          rw [t_lp, if_pos ⟨r1, w⟩]
        rw [e1] at hB'
        have hc2 : (c ++ r.2.2.1).length ≤ r.2.1 + 1 := by
          rw [List.length_append]; have := hr.2.2.1; omega
        have hR' := hR (r.2.1 + 1) (c ++ r.2.2.1) lt hc2
        have hx := hB (r.2.1 + 1) lt
        rw [if_pos w, if_neg (by decide), show t_fb r = 0 from if_pos r1, k_sign hn h hr.2.1, q_bi_s, sc_2, nI_1 r.2.1, sc_up, hR', q_bv_s, k_emit (by
          rw [List.length_append, List.length_append]
          have a := hr.2.2.1
          have b := hx.2.2.1
          have b2 := hx.2.1
          omega), q_bv_s, e2, nI_1 i]
        have ih' := ih (t_bn (t_at (M.1 15) n r.2.1) r (nx (r.2.1 + 1))) (i + 1) N c hB' hc (by omega) (by omega)
        rw [← ih']
        have ec : c ++ r.2.2.1 ++ (nx (r.2.1 + 1)).2.2.1 ++ [-(t_at (M.1 15) n r.2.1)] = c ++ (t_bn (t_at (M.1 15) n r.2.1) r (nx (r.2.1 + 1))).2.2.1 := by
          show c ++ r.2.2.1 ++ (nx (r.2.1 + 1)).2.2.1 ++ [-(t_at (M.1 15) n r.2.1)] = c ++ (r.2.2.1 ++ (nx (r.2.1 + 1)).2.2.1 ++ [-(t_at (M.1 15) n r.2.1)])
          simp only [List.append_assoc]
        rw [ec]
        rfl
      · rw [if_neg w, if_pos rfl, t_lp, if_neg (fun k => w k.2)]
    · rw [if_neg (show ¬ t_fb r = 0 by rw [show t_fb r = 1 from if_neg r1]; decide), t_lp, if_neg (fun k => r1 k.1)]
theorem rk_level {l o : Nat} {nx : Nat → PR} (hl : l < 5) (hn : M.1 14 1 = nI n) (h : n ≤ 120) (hB : ∀ p, p ≤ n → t_B n p (nx p)) (hR : RK sl sx (d + 2) 39 n M [.ref 14, .int (nI l + 1), .int (nI o)] nx) : RK sl sx (d + 3) 39 n M [.ref 14, .int (nI l), .int (nI o)] (fun p => t_lp (t_at (M.1 15) n) nx l (if l = 2 then 1 else 120) (nx p)) := by
  intro p c hp hc
  rw [e_X4_readLevel, b_X4_readLevel_0, if_pos (show nI l ≤ 4 by rw [Int32.le_iff_toInt_le, nI_toInt (by omega), qv_4]; omega), hR p c hp hc, q_bv_s]
  by_cases l2 : l = 2
  · rw [if_pos (show nI l = 2 by rw [l2]; decide), if_pos l2]
    exact rk_loop (e := 1) hl hn h hB hR (by decide) 1 (nx p) 0 q_n1 c (hB p hp) hc rfl (q_n1b (by decide))
  · rw [if_neg (show ¬ nI l = 2 by rw [q_eqI, nI_toInt (by omega), qv_2]; omega), if_neg l2]
    exact rk_loop (e := 120) hl hn h hB hR (by decide) 120 (nx p) 0 q_n1 c (hB p hp) hc rfl (q_n1b (by decide))
theorem k_readClosing (hn : M.1 14 1 = nI n) (h : n ≤ 120) {u : PR} (hu : u.2.1 ≤ n) : qK sl sx (d + 2) 42 [.ref 14] (SC M u.2.1 (t_fb u) c) = some (none, SC M (t_cl (t_at (M.1 15) n) u).2.1 (t_fb (t_cl (t_at (M.1 15) n) u)) c) := by
  rw [e_X4_readClosing, b_X4_readClosing_0, sc_3]
  unfold t_cl
  by_cases r1 : u.1 = true
  · rw [if_pos (show t_fb u = 0 from if_pos r1), k_sign hn h hu, q_bi_s]
    by_cases w : t_at (M.1 15) n u.2.1 = 41
    · rw [if_pos w, if_pos ⟨r1, w⟩, sc_2, nI_1, sc_up, show t_fb u = 0 from if_pos r1]
      rfl
    · rw [if_neg w, if_neg (fun k => w k.2), sc_br]
      rfl
  · rw [if_neg (show ¬ t_fb u = 0 by rw [show t_fb u = 1 from if_neg r1]; decide), if_neg (fun k => r1 k.1), sc_br]
    rfl
theorem rk_ps (hn : M.1 14 1 = nI n) (h : n ≤ 120) : ∀ (k d : Nat), (∀ o, o ≤ 6 → (6 - o) * 6 + 1 ≤ k → RK sl sx (d + 2 * k + 3) 41 n M [.ref 14, .int (nI o)] (fun p => t_ps (t_at (M.1 15) n) k 5 o p)) ∧ (∀ l o, l ≤ 5 → o ≤ 6 → (6 - o) * 6 + (6 - l) ≤ k → RK sl sx (d + 2 * k + 4) 39 n M [.ref 14, .int (nI l), .int (nI o)] (fun p => t_ps (t_at (M.1 15) n) k l o p)) := by
  intro k
  induction k with
  | zero =>
    intro d
    exact ⟨fun o ho hk => by omega, fun l o hl ho hk => by omega⟩
  | succ k ih =>
    intro d
    have hO : ∀ d o, o ≤ 6 → (6 - o) * 6 + 1 ≤ k + 1 → RK sl sx (d + 2 * (k + 1) + 3) 41 n M [.ref 14, .int (nI o)] (fun p => t_ps (t_at (M.1 15) n) (k + 1) 5 o p) := by
      intro d o ho hk p c hp hc
      rw [show d + 2 * (k + 1) + 3 = d + 2 * k + 4 + 1 by omega]
      simp only [t_ps]
      rw [if_neg (by decide), e_X4_readOperand, b_X4_readOperand_0, k_sign hn h hp, q_bi_s, k_isDigit, q_bi_s]
      by_cases c1 : t_dig (t_at (M.1 15) n p)
      · rw [if_pos c1, if_pos c1, if_neg (by decide), k_readNumber hn h (by omega) hp, q_bv_s]
        rfl
      rw [if_neg c1, if_neg c1, if_pos rfl, k_isName, q_bi_s]
      by_cases c2 : t_nam (t_at (M.1 15) n p)
      · rw [if_pos c2, if_pos c2, if_neg (by decide), sc_2, nI_1, sc_up, k_emit (by omega), q_bv_s]
        rfl
      rw [if_neg c2, if_neg c2, if_pos rfl]
      by_cases ho6 : o < 6
      · have o6 : ¬ (6 : Int32) ≤ nI o := by rw [Int32.le_iff_toInt_le, nI_toInt (by omega), qv_6]; omega
        rw [if_neg o6]
        by_cases c3 : t_at (M.1 15) n p = 33 ∨ t_at (M.1 15) n p = 45
        · have l1 : p < n := t_at_lt (fun e => by rcases c3 with w | w <;> rw [e] at w <;> exact absurd w (by decide))
          have i5 := (ih (d + 1)).1 (o + 1) (by omega) (by omega) (p + 1) c l1 (by omega)
          simp only [] at i5
          rw [show d + 1 + 2 * k + 3 = d + 2 * k + 4 by omega] at i5
          have B5 := t_ps_B (t := M.1 15) k 5 (o + 1) (p + 1) l1
          rw [if_pos (show o < 6 ∧ (t_at (M.1 15) n p = 33 ∨ t_at (M.1 15) n p = 45) from ⟨ho6, c3⟩), sc_2, nI_1 p, nI_1 o, sc_up]
          generalize t_ps (t_at (M.1 15) n) k 5 (o + 1) (p + 1) = u at *
          have hem : (c ++ u.2.2.1).length ≤ 120 := by
            rw [List.length_append]
            have := B5.2.2.1
            have := B5.2.1
            omega
          rcases c3 with q | q
          · rw [if_pos q, i5, q_bv_s, if_pos q, k_emit hem, q_bv_s, q, List.append_assoc]
            rfl
          · have q33 : ¬ t_at (M.1 15) n p = 33 := by rw [q]; decide
            rw [if_neg q33, if_pos q, i5, q_bv_s, if_neg q33, k_emit hem, q_bv_s, q, List.append_assoc]
            rfl
        · have c31 : ¬ t_at (M.1 15) n p = 33 := fun e => c3 (Or.inl e)
          have c32 : ¬ t_at (M.1 15) n p = 45 := fun e => c3 (Or.inr e)
          rw [if_neg (show ¬ (o < 6 ∧ (t_at (M.1 15) n p = 33 ∨ t_at (M.1 15) n p = 45)) from fun k => c3 k.2), if_neg c31, if_neg c32]
          by_cases c4 : t_at (M.1 15) n p = 40
          · have l1 : p < n := t_at_lt (fun e => by rw [e] at c4; exact absurd c4 (by decide))
            have i0 := (ih d).2 0 (o + 1) (by omega) (by omega) (by omega) (p + 1) c l1 (by omega)
            simp only [] at i0
            rw [nI_0] at i0
            have B0 := t_ps_B (t := M.1 15) k 0 (o + 1) (p + 1) l1
            rw [if_neg o6, if_pos (show o < 6 ∧ t_at (M.1 15) n p = 40 from ⟨ho6, c4⟩), if_pos c4, sc_2, nI_1 p, nI_1 o, sc_up, i0, q_bv_s]
            generalize t_ps (t_at (M.1 15) n) k 0 (o + 1) (p + 1) = u at *
            have ec : (t_cl (t_at (M.1 15) n) u).2.2.1 = u.2.2.1 := by unfold t_cl; split <;> rfl
            rw [show d + 2 * k + 4 = d + 2 * k + 2 + 2 by omega, k_readClosing hn h B0.2.1, q_bv_s, ec]
          · rw [if_neg o6, if_neg (show ¬ (o < 6 ∧ t_at (M.1 15) n p = 40) from fun k => c4 k.2), if_neg c4, sc_br]
            show _ = some (none, SC M p 1 (c ++ []))
            rw [List.append_nil]
      · have o6 : (6 : Int32) ≤ nI o := by rw [Int32.le_iff_toInt_le, nI_toInt (by omega), qv_6]; omega
        rw [if_pos o6, if_pos o6, if_neg (show ¬ (o < 6 ∧ (t_at (M.1 15) n p = 33 ∨ t_at (M.1 15) n p = 45)) from fun k => ho6 k.1), if_neg (show ¬ (o < 6 ∧ t_at (M.1 15) n p = 40) from fun k => ho6 k.1), sc_br]
        show _ = some (none, SC M p 1 (c ++ []))
        rw [List.append_nil]
    refine ⟨hO d, fun l o hl ho hk => ?_⟩
    by_cases l5 : l < 5
    · have i1 := (ih (d + 1)).2 (l + 1) o (by omega) ho (by omega)
      rw [← nI_1, show d + 1 + 2 * k + 4 = d + 2 * k + 3 + 2 by omega] at i1
      rw [show d + 2 * (k + 1) + 4 = d + 2 * k + 3 + 3 by omega]
      have hB : ∀ p, p ≤ n → t_B n p (t_ps (t_at (M.1 15) n) k (l + 1) o p) := fun p hp => t_ps_B k _ _ p hp
      intro p c hp hc
      have := rk_level (sl := sl) (sx := sx) l5 hn h hB i1 p c hp hc
      simp only [t_ps] at this ⊢
      rw [if_pos l5]
      exact this
    · have l5' : l = 5 := by omega
      subst l5'
      intro p c hp hc
      have o1 := hO d o ho (by omega) p c hp hc
      simp only [] at o1
      rw [e_X4_readLevel, b_X4_readLevel_0, if_neg (by decide), o1, q_bv_s]
theorem k_readLine {K : Nat} (hK : K = 42) (hn : M.1 14 1 = nI n) (h : n ≤ 120) (hp : p ≤ n) (hc : c.length ≤ p) : qK sl sx (d + 100) 38 [.ref 14] (SC M p 0 c) = some (none, SC M (t_ln (t_at (M.1 15) n) K p).2.1 (if (t_ln (t_at (M.1 15) n) K p).1 = true then 0 else 1) (c ++ (t_ln (t_at (M.1 15) n) K p).2.2.1)) := by
  have R := (rk_ps (sl := sl) (sx := sx) hn h K (d + 11)).2 0 0 (by decide) (by decide) (by omega)
  rw [nI_0, show d + 11 + 2 * K + 4 = d + 99 by omega] at R
  have R1 := R p c hp hc
  have B1 := t_ps_B (t := M.1 15) K 0 0 p hp
  simp only [] at R1
  rw [e_X4_readLine, b_X4_readLine_0, R1, q_bv_s]
  unfold t_ln
  generalize t_ps (t_at (M.1 15) n) K 0 0 p = q at *
  have h1 : (c ++ q.2.2.1).length ≤ q.2.1 := by
    rw [List.length_append]
    have := B1.2.2.1
    omega
  have h1' := B1.2.1
  rw [sc_3]
  by_cases r1 : q.1 = true
  · rw [if_pos (show t_fb q = 0 from if_pos r1), k_sign hn h B1.2.1, q_bi_s]
    by_cases w : t_at (M.1 15) n q.2.1 = 63
    · have l1 : q.2.1 < n := t_at_lt (fun e => by rw [e] at w; exact absurd w (by decide))
      have R2 := R (q.2.1 + 1) (c ++ q.2.2.1 ++ [-63]) l1 (by rw [List.length_append, List.length_singleton]; omega)
      have B2 := t_ps_B (t := M.1 15) K 0 0 (q.2.1 + 1) l1
      simp only [] at R2
      rw [if_pos w, if_pos ⟨r1, w⟩, sc_2, nI_1, sc_up, k_emit (by omega), q_bv_s, show t_fb q = 0 from if_pos r1, R2, q_bv_s]
      generalize t_ps (t_at (M.1 15) n) K 0 0 (q.2.1 + 1) = u at *
      rw [k_emit (by
        have := B2.2.2.1
        have := B2.2.1
        rw [List.length_append, List.length_append, List.length_singleton]
        omega), q_bv_s]
      simp only [List.append_assoc]
    · rw [if_neg w, if_neg (fun k => w k.2), k_emit (by omega), q_bv_s, List.append_assoc]
  · rw [if_neg (show ¬ t_fb q = 0 by rw [show t_fb q = 1 from if_neg r1]; decide), if_neg (fun k => r1 k.1), k_emit (by omega), q_bv_s, List.append_assoc]
theorem k_readL {K : Nat} (hK : K = 42) (hn : M.1 14 1 = nI n) (h : n ≤ 120) : ∀ (k p i N : Nat) (c : List Int32), p ≤ n → c.length ≤ p → i + k = 120 → i ≤ p → k < N → q_bv (qK sl sx (d + 100) 38 [.ref 14] (SC M p 0 c)) (fun M1 => qF sl sx (d + 100) 35 N 21 [some (.ref 14), some (.int (nI i))] [] M1) = some (some (.int (if (t_tx (t_at (M.1 15) n) K (k + 1) p).1 = true ∧ n ≤ (t_tx (t_at (M.1 15) n) K (k + 1) p).2.1 then -1 else nI (t_tx (t_at (M.1 15) n) K (k + 1) p).2.1)), SC M (t_tx (t_at (M.1 15) n) K (k + 1) p).2.1 (if (t_tx (t_at (M.1 15) n) K (k + 1) p).1 = true then 0 else 1) (c ++ (t_tx (t_at (M.1 15) n) K (k + 1) p).2.2.1)) := by
  intro k
  induction k with
  | zero =>
    intro p i N c hp hc hi hip hN
    obtain ⟨N, rfl⟩ : ∃ N', N = N' + 1 := ⟨N - 1, by omega⟩
    have B := t_ln_B (t := M.1 15) (K := K) hp
    have n59 : ¬ t_at (M.1 15) n (t_ln (t_at (M.1 15) n) K p).2.1 = 59 := fun e => by
      have := t_at_lt (t := M.1 15) (n := n) (p := (t_ln (t_at (M.1 15) n) K p).2.1) (by rw [e]; decide)
      have := B.1
      omega
    have hT : t_tx (t_at (M.1 15) n) K (0 + 1) p = _ := if_neg (show ¬ ((t_ln (t_at (M.1 15) n) K p).1 = true ∧ t_at (M.1 15) n (t_ln (t_at (M.1 15) n) K p).2.1 = 59) from fun k => n59 k.2)
    rw [k_readLine hK hn h hp hc, q_bv_s, b_X4_read_21, if_pos (show (120 : Int32) ≤ nI i by rw [Int32.le_iff_toInt_le, nI_toInt (by omega), qv_120]; omega), sc_3, sc_1, sc_2, hn, hT]
    dsimp only
    generalize t_ln (t_at (M.1 15) n) K p = q at *
    have B2 := B.2.1
    by_cases r1 : q.1 = true
    · rw [if_pos r1, if_pos (show (0 : Int32) = 0 from rfl)]
      by_cases w : n ≤ q.2.1
      · rw [if_pos (nI_le w (by omega)), if_pos (show q.1 = true ∧ n ≤ q.2.1 from ⟨r1, w⟩)]
      · rw [if_neg (nI_ge (by omega) (by omega)), if_neg (show ¬ (q.1 = true ∧ n ≤ q.2.1) from fun k => w k.2)]
    · rw [if_neg r1, if_neg (show ¬ (1 : Int32) = 0 by decide), if_neg (show ¬ (q.1 = true ∧ n ≤ q.2.1) from fun k => r1 k.1)]
  | succ k ih =>
    intro p i N c hp hc hi hip hN
    obtain ⟨N, rfl⟩ : ∃ N', N = N' + 1 := ⟨N - 1, by omega⟩
    have B := t_ln_B (t := M.1 15) (K := K) hp
    rw [k_readLine hK hn h hp hc, q_bv_s, b_X4_read_21, if_neg (show ¬ (120 : Int32) ≤ nI i by rw [Int32.le_iff_toInt_le, nI_toInt (by omega), qv_120]; omega), sc_3, sc_1, sc_2, hn]
    by_cases w59 : (t_ln (t_at (M.1 15) n) K p).1 = true ∧ t_at (M.1 15) n (t_ln (t_at (M.1 15) n) K p).2.1 = 59
    · have hT : t_tx (t_at (M.1 15) n) K (k + 1 + 1) p = _ := if_pos w59
      rw [hT]
      dsimp only
      generalize t_ln (t_at (M.1 15) n) K p = q at *
      obtain ⟨B1, B2, B3⟩ := B
      obtain ⟨r1, w⟩ := w59
      have l1 : q.2.1 < n := t_at_lt (fun e => by rw [e] at w; exact absurd w (by decide))
      rw [if_pos r1, if_pos (show (0 : Int32) = 0 from rfl), k_sign hn h B2, q_bi_s, if_pos w, sc_2, nI_1 q.2.1, sc_up, nI_1 i]
      rw [ih (q.2.1 + 1) (i + 1) N (c ++ q.2.2.1) l1 (by rw [List.length_append]; omega) (by omega) (by omega) (by omega)]
      rw [List.append_assoc]
    · have hT : t_tx (t_at (M.1 15) n) K (k + 1 + 1) p = _ := if_neg w59
      rw [hT]
      dsimp only
      generalize t_ln (t_at (M.1 15) n) K p = q at *
      obtain ⟨B1, B2, B3⟩ := B
      by_cases r1 : q.1 = true
      · have w : ¬ t_at (M.1 15) n q.2.1 = 59 := fun e => w59 ⟨r1, e⟩
        rw [if_pos r1, if_pos (show (0 : Int32) = 0 from rfl), k_sign hn h B2, q_bi_s, if_neg w, sc_3, if_pos (show (0 : Int32) = 0 from rfl), sc_1, sc_2, hn]
        by_cases w : n ≤ q.2.1
        · rw [if_pos (nI_le w (by omega)), if_pos (show q.1 = true ∧ n ≤ q.2.1 from ⟨r1, w⟩)]
        · rw [if_neg (nI_ge (by omega) (by omega)), if_neg (show ¬ (q.1 = true ∧ n ≤ q.2.1) from fun k => w k.2)]
      · rw [if_neg r1, if_neg (show ¬ (1 : Int32) = 0 by decide), if_neg (show ¬ (q.1 = true ∧ n ≤ q.2.1) from fun k => r1 k.1), if_neg (show ¬ (1 : Int32) = 0 by decide)]
theorem k_read {K k : Nat} (hK : K = 42) (hk : k = 120) (hn : M.1 14 1 = nI n) (h : n ≤ 120) : qK sl sx (d + 101) 35 [.ref 14] M = some (some (.int (if (t_tx (t_at (M.1 15) n) K (k + 1) 0).1 = true ∧ n ≤ (t_tx (t_at (M.1 15) n) K (k + 1) 0).2.1 then -1 else nI (t_tx (t_at (M.1 15) n) K (k + 1) 0).2.1)), SC M (t_tx (t_at (M.1 15) n) K (k + 1) 0).2.1 (if (t_tx (t_at (M.1 15) n) K (k + 1) 0).1 = true then 0 else 1) (t_tx (t_at (M.1 15) n) K (k + 1) 0).2.2.1) := by
  rw [e_X4_read, b_X4_read_0]
  have e : (q_up (q_up (q_up M.1 14 2 0) 14 5 0) 14 3 0, M.2) = SC M 0 0 [] := by
    refine Prod.ext ?_ rfl
    funext a k
    show (if a = 14 ∧ k = 3 then 0 else if a = 14 ∧ k = 5 then 0 else if a = 14 ∧ k = 2 then 0 else M.1 a k) = (SC M 0 0 []).1 a k
    unfold SC
    simp only [List.length_nil, Nat.not_lt_zero, and_false, if_false]
    by_cases e2 : a = 14 ∧ k = 2
    · rw [if_neg (by omega), if_neg (by omega), if_pos e2, if_pos e2]; rfl
    · rw [if_neg e2, if_neg e2]
      by_cases e3 : a = 14 ∧ k = 3
      · rw [if_pos e3, if_pos e3]
      · rw [if_neg e3, if_neg e3]
        by_cases e5 : a = 14 ∧ k = 5
        · rw [if_pos e5, if_pos e5]; rfl
        · rw [if_neg e5, if_neg e5]
  rw [e]
  have := k_readL (sl := sl) (sx := sx) (d := d) hK hn h k 0 0 q_n1 [] (Nat.zero_le _) (Nat.le_refl _) (by omega) (Nat.le_refl _) (q_n1b (by omega))
  rw [List.nil_append] at this
  exact this
end READ
