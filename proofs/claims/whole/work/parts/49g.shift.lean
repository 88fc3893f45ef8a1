/-! PAIRS: shift, farms (wip/whole/f) -/
theorem pl_in {x y : Int32} {z : Nat} (hz : z ≤ 60) : (0 ≤ x.toInt ∧ 0 ≤ y.toInt ∧ x.toInt + y.toInt ≤ z) ↔ (0 ≤ x.toInt ∧ 0 ≤ y.toInt ∧ x.toInt ≤ z ∧ y.toInt ≤ z - x.toInt) := by omega
section SHIFT
variable {sl : Nat} {sx : Nat → Int32} {d n s : Nat} {M : QM} {x y z : Int32} {v : Int64}
theorem k_hasPlaces {o : Nat} (hq : qIsS o) (h : M.1 o 1 = nI n) (hn : n ≤ 60) : qK sl sx (d + 1) 55 [.ref o, .int x, .int y] M = some (some (.int (if 0 ≤ x.toInt ∧ 0 ≤ y.toInt ∧ x.toInt + y.toInt ≤ n then 1 else 0)), M) := by
  rw [e_X5_hasPlaces, b_X5_hasPlaces_0, qS_O hq, qS_O hq, h]
  simp only [Int32.lt_iff_toInt_lt, qv_0, nI_toInt (show n < 2 ^ 31 by omega)]
  by_cases a1 : x.toInt < 0
  · rw [if_pos a1, if_neg (by omega)]
  · rw [if_neg a1]
    by_cases a2 : y.toInt < 0
    · rw [if_pos a2, if_neg (by omega)]
    · rw [if_neg a2]
      by_cases a3 : (n : Int) < x.toInt
      · rw [if_pos a3, if_neg (by omega)]
      · have e : (nI n - x).toInt = (n : Int) - x.toInt := by
          rw [tI_sub (by rw [nI_toInt (by omega)]; omega) (by rw [nI_toInt (by omega)]; omega), nI_toInt (by omega)]
        rw [if_neg a3, e]
        by_cases a4 : (n : Int) - x.toInt < y.toInt
        · rw [if_pos a4, if_neg (by omega)]
        · rw [if_neg a4, if_pos (by omega)]
theorem q_cellS (h : s < 6) : q_cell qG0 (qX sl sx) (37 + 2 * s) = some (11, 60, []) := by
  have : s = 0 ∨ s = 1 ∨ s = 2 ∨ s = 3 ∨ s = 4 ∨ s = 5 := by omega
  rcases this with rfl | rfl | rfl | rfl | rfl | rfl <;> rfl
theorem k_cpyL {β : Type} {s t i j m : Nat} (hs : s < 6) (ht : t < 6) (hi : i + m ≤ 60) (hj : j + m ≤ 60) (f : QM → Option β) : q_cpy qG0 (qX sl sx) M (37 + 2 * s) (nI i) (37 + 2 * t) (nI j) (nI m) f = f (M.1, q_uc M.2 (37 + 2 * t) (va_cpy (M.2 (37 + 2 * s)) (M.2 (37 + 2 * t)) i j m)) := by
  unfold q_cpy
  rw [q_cellS hs, q_cellS ht]
  simp only []
  rw [nI_clamp (by omega), nI_clamp (by omega), nI_clamp (by omega), if_neg]
  · rfl
  · rintro (q | q | q | q | q)
    · exact nI_pos (by omega) q
    · exact nI_pos (by omega) q
    · exact nI_pos (by omega) q
    · omega
    · omega
theorem fr_luc {l : List Nat} {M : QM} {h : Nat → Nat → Int32} {g : Nat → Nat → Int64} {f : Nat → Int64} (hs : s < 6) (e : [237, 239, 241, 243, 245, 247].all (fun x => l.elem x) = true) (h1 : Fr l M (h, g)) : Fr l M (h, q_uc g (37 + 2 * s) f) := by
  rw [List.all_eq_true] at e
  refine fr_uc2 (e _ ?_) h1
  have : s = 0 ∨ s = 1 ∨ s = 2 ∨ s = 3 ∨ s = 4 ∨ s = 5 := by omega
  rcases this with rfl | rfl | rfl | rfl | rfl | rfl <;> decide
theorem k9_shA {s i m t j : Nat} (hs : s < 6) (hi : i + m ≤ 60) : ∀ (k c N : Nat) (M : QM), k + c = m → k + 1 < N → ∃ N' M', N ≤ N' + k + 1 ∧ qF sl sx d 254 N 124 [some (.ref 48), some (.int (nI s)), some (.int (nI i)), some (.int (nI t)), some (.int (nI j)), some (.int (nI m)), some (.int (nI c))] [] M = qF sl sx d 254 N' 161 [some (.ref 48), none, none, some (.int (nI t)), some (.int (nI j)), some (.int (nI m)), some (.int 0)] [] M' ∧ M'.1 = M.1 ∧ (∀ a k, a ≠ 76 → M'.2 a k = M.2 a k) ∧ ∀ k, M'.2 76 k = if c ≤ k ∧ k < m then M.2 75 (60 * s + i + k) else M.2 76 k := by
  intro k
  induction k with
  | zero =>
    intro c N M hc hN
    obtain ⟨N, rfl⟩ : ∃ N', N = N' + 1 := ⟨N - 1, by omega⟩
    refine ⟨N, M, by omega, ?_, rfl, fun _ _ _ => rfl, fun k => ?_⟩
    · rw [b_X9_shift_124, if_pos (nI_le (by omega) (by omega))]
    · rw [if_neg (by omega)]
  | succ k ih =>
    intro c N M hc hN
    obtain ⟨N, rfl⟩ : ∃ N', N = N' + 1 := ⟨N - 1, by omega⟩
    have e : (60 : Int32) = nI 60 := by decide
    obtain ⟨N', M', g0, g1, g2, g3, g4⟩ := ih (c + 1) N (M.1, q_up M.2 76 c (M.2 75 (60 * s + i + c))) (by omega) (by omega)
    refine ⟨N', M', by omega, ?_, g2, fun a k ha => ?_, fun k' => ?_⟩
    · rw [b_X9_shift_124, if_neg (nI_ge (by omega) (by omega)), e, pk_mul, nI_add, nI_add, if_neg (nI_in (show 60 * s + i + c < 360 by omega) (by decide)), if_neg (nI_in (show c < 60 by omega) (by decide)), nI_clamp (by omega), nI_clamp (by omega), nI_1]
      exact g1
    · rw [g3 a k ha]
      dsimp only
      rw [q_up_a _ _ _ _ ha]
    · rw [g4 k']
      dsimp only
      rw [q_up_a _ _ _ _ (by decide)]
      by_cases q : k' = c
      · rw [q, q_up_s, if_neg (by omega), if_pos (by omega)]
      · rw [q_up_k _ _ _ _ q]
        by_cases w : c + 1 ≤ k' ∧ k' < m
        · rw [if_pos w, if_pos (by omega)]
        · rw [if_neg w, if_neg (by omega)]
theorem k9_shB {t j m : Nat} (ht : t < 6) (hj : j + m ≤ 60) : ∀ (k c N : Nat) (M : QM), k + c = m → k < N → ∃ M', qF sl sx d 254 N 161 [some (.ref 48), none, none, some (.int (nI t)), some (.int (nI j)), some (.int (nI m)), some (.int (nI c))] [] M = some (some (.int (nI m)), M') ∧ M'.1 = M.1 ∧ (∀ a k, a ≠ 75 → M'.2 a k = M.2 a k) ∧ ∀ k, M'.2 75 k = if 60 * t + j + c ≤ k ∧ k < 60 * t + j + m then M.2 76 (k - (60 * t + j)) else M.2 75 k := by
  intro k
  induction k with
  | zero =>
    intro c N M hc hN
    obtain ⟨N, rfl⟩ : ∃ N', N = N' + 1 := ⟨N - 1, by omega⟩
    refine ⟨M, ?_, rfl, fun _ _ _ => rfl, fun k => ?_⟩
    · rw [b_X9_shift_161, if_pos (nI_le (by omega) (by omega))]
    · rw [if_neg (by omega)]
  | succ k ih =>
    intro c N M hc hN
    obtain ⟨N, rfl⟩ : ∃ N', N = N' + 1 := ⟨N - 1, by omega⟩
    have e : (60 : Int32) = nI 60 := by decide
    obtain ⟨M', g1, g2, g3, g4⟩ := ih (c + 1) N (M.1, q_up M.2 75 (60 * t + j + c) (M.2 76 c)) (by omega) (by omega)
    refine ⟨M', ?_, g2, fun a k ha => ?_, fun k' => ?_⟩
    · rw [b_X9_shift_161, if_neg (nI_ge (by omega) (by omega)), e, pk_mul, nI_add, nI_add, if_neg (nI_in (show c < 60 by omega) (by decide)), if_neg (nI_in (show 60 * t + j + c < 360 by omega) (by decide)), nI_clamp (by omega), nI_clamp (by omega), nI_1]
      exact g1
    · rw [g3 a k ha]
      dsimp only
      rw [q_up_a _ _ _ _ ha]
    · rw [g4 k']
      dsimp only
      rw [q_up_a _ _ _ _ (show (76 : Nat) ≠ 75 by decide)]
      by_cases q : k' = 60 * t + j + c
      · rw [q, q_up_s, if_neg (by omega), if_pos (by omega), show 60 * t + j + c - (60 * t + j) = c by omega]
      · rw [q_up_k _ _ _ _ q]
        by_cases w : 60 * t + j + (c + 1) ≤ k' ∧ k' < 60 * t + j + m
        · rw [if_pos w, if_pos (by omega)]
        · rw [if_neg w, if_neg (by omega)]
theorem k9_sh0 {s t o zs zt : Nat} (hs : s < 6) (ht : t < 6) (h1 : M.1 71 s = 2) (g1 : M.1 71 t = 2) (h2 : M.1 72 s = nI o) (g2 : M.1 72 t = nI o) (h4 : M.1 73 s = nI zs) (g4 : M.1 73 t = nI zt) (hzs : zs ≤ 60) (hzt : zt ≤ 60) (p1 : 0 ≤ x.toInt ∧ 0 ≤ z.toInt ∧ x.toInt + z.toInt ≤ zs) (p2 : 0 ≤ y.toInt ∧ 0 ≤ z.toInt ∧ y.toInt + z.toInt ≤ zt) : qK sl sx (d + 2) 254 [.ref 48, .int (nI s), .int x, .int (nI t), .int y, .int z] M = qF sl sx (d + 1) 254 q_n1 124 [some (.ref 48), some (.int (nI s)), some (.int x), some (.int (nI t)), some (.int y), some (.int z), some (.int 0)] [] M := by
  rw [e_X9_shift, b_X9_shift_0, k9_isShelfY hs, q_bi_s, if_neg n10, k9_isShelfY ht, q_bi_s, if_neg n10, if_neg (s6 hs), s6c hs, h1, if_neg (show ¬ (2 : Int32) = 0 by decide), if_neg (s6 ht), s6c ht, g1, if_neg (show ¬ (2 : Int32) = 0 by decide), if_neg (s6n hs), if_neg (show ¬ (2 : Int32) = 1 by decide), if_neg (s6n ht), if_neg (show ¬ (2 : Int32) = 1 by decide), if_neg (s6n hs), if_neg (s6n ht), h2, g2, if_pos rfl, if_neg (s6n hs), if_neg (s6n ht), h4, g4]
  have e : (nI zs - z).toInt = (zs : Int) - z.toInt := by
    rw [tI_sub (by rw [nI_toInt (by omega)]; omega) (by rw [nI_toInt (by omega)]; omega), nI_toInt (by omega)]
  have e2 : (nI zt - z).toInt = (zt : Int) - z.toInt := by
    rw [tI_sub (by rw [nI_toInt (by omega)]; omega) (by rw [nI_toInt (by omega)]; omega), nI_toInt (by omega)]
  simp only [Int32.lt_iff_toInt_lt, Int32.le_iff_toInt_le, qv_0]
  rw [if_neg (by omega), if_neg (by omega), if_neg (by omega), e, if_neg (by omega), e2, if_pos (by omega)]
theorem p_shift (x y z w v : Int32) : QPi sl sx JA 123 254 [.int x, .int y, .int z, .int w, .int v] := by
  intro M hJ
  obtain ⟨n, b, hF, hT, hL, hC, hD, hK, hS, hH⟩ := id hJ
  rcases in6 (x := x) with hx | hx
  rotate_left
  · refine ⟨-1, M, M, ?_, ?_, hJ⟩
    · rw [e_X8_shift, b_X8_shift_0, k_shelfN hx, q_br_n]
      rcases in6 (x := z) with hz | hz
      · have ez : z = nI z.toInt.toNat := q_ofN hz.1
        rw [ez, k_shelfY (by omega), q_br_s]
      · rw [k_shelfN hz, q_br_n]
    · rw [e_X9_shift, b_X9_shift_0, k9_isShelfN hx, q_bi_s, if_pos rfl]
  have ex : x = nI x.toInt.toNat := q_ofN hx.1
  have hs : x.toInt.toNat < 6 := by omega
  generalize x.toInt.toNat = s at *
  subst ex
  have hq := qs_is hs
  rcases in6 (x := z) with hz | hz
  rotate_left
  · refine ⟨-1, M, M, ?_, ?_, hJ⟩
    · rw [e_X8_shift, b_X8_shift_0, k_shelfY hs, q_br_s, k_shelfN hz, q_br_n]
    · rw [e_X9_shift, b_X9_shift_0, k9_isShelfY hs, q_bi_s, if_neg n10, k9_isShelfN hz, q_bi_s, if_pos rfl]
  have ez : z = nI z.toInt.toNat := q_ofN hz.1
  have ht : z.toInt.toNat < 6 := by omega
  generalize z.toInt.toNat = t at *
  subst ez
  have hq2 := qs_is ht
  have cb := (e_X8_shift (sl := sl) (sx := sx) 999 (nI s) y (nI t) w v M).trans (b_X8_shift_0 999 q_n1 (nI s) y (nI t) w v M)
  rw [k_shelfY hs, q_br_s, k_shelfY ht, q_br_s, qS_rc hq, k_holdsNothing hq, q_bi_s] at cb
  have rb := (e_X9_shift (sl := sl) (sx := sx) 999 (nI s) y (nI t) w v M).trans (b_X9_shift_0 999 q_n1 (nI s) y (nI t) w v M)
  rw [k9_isShelfY hs, q_bi_s, if_neg n10, k9_isShelfY ht, q_bi_s, if_neg n10, if_neg (s6 hs), s6c hs] at rb
  by_cases n1 : M.1 71 s = 0
  · have c1 : M.1 (36 + 2 * s) 0 = -1 := by
      rcases hH s hs with ⟨h1, h2⟩ | ⟨h1, h2, _⟩ | ⟨h1, _⟩
      · exact h2
      · rw [n1] at h1; exact absurd h1 (by decide)
      · rw [n1] at h1; exact absurd h1 (by decide)
    refine ⟨-11, M, M, ?_, ?_, hJ⟩
    · rw [cb, if_pos c1, if_neg n10]
    · rw [rb, if_pos n1]
  have c1 : ¬ M.1 (36 + 2 * s) 0 = -1 := by
    rcases hH s hs with ⟨h1, h2⟩ | ⟨h1, h2, _⟩ | ⟨h1, o, zz, ho, hz, h2, h3, _⟩
    · exact absurd h1 n1
    · rw [h2]; decide
    · rw [h3]
      intro e
      have := nI_pos (n := o) (by omega)
      rw [e] at this
      exact this (by decide)
  by_cases n2 : M.1 71 t = 0
  · have c2 : M.1 (36 + 2 * t) 0 = -1 := by
      rcases hH t ht with ⟨h1, h2⟩ | ⟨h1, h2, _⟩ | ⟨h1, _⟩
      · exact h2
      · rw [n2] at h1; exact absurd h1 (by decide)
      · rw [n2] at h1; exact absurd h1 (by decide)
    refine ⟨-11, M, M, ?_, ?_, hJ⟩
    · rw [cb, if_neg c1, if_pos rfl, qS_rc hq2, k_holdsNothing hq2, q_bi_s, if_pos c2, if_neg n10]
    · rw [rb, if_neg n1, if_neg (s6 ht), s6c ht, if_pos n2]
  have c2 : ¬ M.1 (36 + 2 * t) 0 = -1 := by
    rcases hH t ht with ⟨h1, h2⟩ | ⟨h1, h2, _⟩ | ⟨h1, o, zz, ho, hz, h2, h3, _⟩
    · exact absurd h1 n2
    · rw [h2]; decide
    · rw [h3]
      intro e
      have := nI_pos (n := o) (by omega)
      rw [e] at this
      exact this (by decide)
  have cb2 := cb
  rw [if_neg c1, if_pos rfl, qS_rc hq2, k_holdsNothing hq2, q_bi_s, if_neg c2, if_pos rfl, qS_rc hq, k_holdsRow hq, q_bi_s] at cb2
  have rb2 := rb
  rw [if_neg n1, if_neg (s6 ht), s6c ht, if_neg n2, if_neg (s6n hs)] at rb2
  rcases hH s hs with ⟨h1, _⟩ | ⟨h1, h2, _⟩ | ⟨h1, o, zs, ho, hzs, h2, h3, h4, h5, h6⟩
  · exact absurd h1 n1
  · refine ⟨-12, M, M, ?_, ?_, hJ⟩
    · rw [cb2, h2, if_pos (show (-2 : Int32) < 0 by decide), if_pos rfl]
    · rw [rb2, h1, if_pos rfl]
  rw [h3, if_neg (nI_pos (show o < 2 ^ 31 by omega)), if_neg n10, qS_O hq, qS_O hq2] at cb2
  rw [h1, if_neg (show ¬ (2 : Int32) = 1 by decide), if_neg (s6n ht)] at rb2
  rcases hH t ht with ⟨g1, _⟩ | ⟨g1, g2, _⟩ | ⟨g1, o2, zt, ho2, hzt, g2, g3, g4, g5, g6⟩
  · exact absurd g1 n2
  · refine ⟨-12, M, M, ?_, ?_, hJ⟩
    · rw [cb2, g2, if_neg]
      intro e
      have := nI_pos (n := o) (by omega)
      rw [e] at this
      exact this (by decide)
    · rw [rb2, g1, if_pos rfl]
  rw [g3] at cb2
  rw [g1, if_neg (show ¬ (2 : Int32) = 1 by decide), if_neg (s6n hs), if_neg (s6n ht), h2, g2] at rb2
  by_cases eo : o = o2
  rotate_left
  · have en : ¬ nI o = nI o2 := fun e => eo ((nI_eq (by omega) (by omega)).mp e)
    refine ⟨-12, M, M, ?_, ?_, hJ⟩
    · rw [cb2, if_neg en]
    · rw [rb2, if_neg en]
  subst eo
  rw [if_pos rfl, qS_rc hq, k_hasPlaces hq h5 hzs, q_bi_s] at cb2
  rw [if_pos rfl, if_neg (s6n hs), if_neg (s6n ht), h4, g4] at rb2
  by_cases p1 : 0 ≤ y.toInt ∧ 0 ≤ v.toInt ∧ y.toInt + v.toInt ≤ zs
  rotate_left
  · have rr : qK sl sx 1000 254 [.ref 48, .int (nI s), .int y, .int (nI t), .int w, .int v] M = some (some (.int (-13)), M) := by
      rw [rb2]
      simp only [Int32.lt_iff_toInt_lt, Int32.le_iff_toInt_le, qv_0]
      by_cases a1 : v.toInt < 0
      · rw [if_pos a1]
      · rw [if_neg a1]
        by_cases a2 : y.toInt < 0
        · rw [if_pos a2]
        · rw [if_neg a2]
          by_cases a3 : w.toInt < 0
          · rw [if_pos a3]
          · have e : (nI zs - v).toInt = (zs : Int) - v.toInt := by
              have := v.toInt_lt
              rw [tI_sub (by rw [nI_toInt (by omega)]; omega) (by rw [nI_toInt (by omega)]; omega), nI_toInt (by omega)]
            rw [if_neg a3, e, if_pos (by omega)]
    refine ⟨-13, M, M, ?_, rr, hJ⟩
    rw [cb2, if_neg p1, if_pos rfl]
  rw [if_pos p1, if_neg n10, qS_rc hq2, k_hasPlaces hq2 g5 hzt, q_bi_s] at cb2
  by_cases p2 : 0 ≤ w.toInt ∧ 0 ≤ v.toInt ∧ w.toInt + v.toInt ≤ zt
  rotate_left
  · have rr : qK sl sx 1000 254 [.ref 48, .int (nI s), .int y, .int (nI t), .int w, .int v] M = some (some (.int (-13)), M) := by
      rw [rb2]
      simp only [Int32.lt_iff_toInt_lt, Int32.le_iff_toInt_le, qv_0]
      have e : (nI zs - v).toInt = (zs : Int) - v.toInt := by
        rw [tI_sub (by rw [nI_toInt (by omega)]; omega) (by rw [nI_toInt (by omega)]; omega), nI_toInt (by omega)]
      have e2 : (nI zt - v).toInt = (zt : Int) - v.toInt := by
        rw [tI_sub (by rw [nI_toInt (by omega)]; omega) (by rw [nI_toInt (by omega)]; omega), nI_toInt (by omega)]
      rw [if_neg (by omega), if_neg (by omega)]
      by_cases a3 : w.toInt < 0
      · rw [if_pos a3]
      · rw [if_neg a3, e, if_neg (by omega), e2, if_neg (by omega)]
    refine ⟨-13, M, M, ?_, rr, hJ⟩
    rw [cb2, if_neg p2, if_pos rfl]
  have ey : y = nI y.toInt.toNat := q_ofN p1.1
  have ew : w = nI w.toInt.toNat := q_ofN p2.1
  have ev : v = nI v.toInt.toNat := q_ofN p1.2.1
  have l1 : y.toInt.toNat + v.toInt.toNat ≤ zs := by omega
  have l2 : w.toInt.toNat + v.toInt.toNat ≤ zt := by omega
  clear cb rb rb2
  have ip1 := p1
  have ip2 := p2
  generalize hyy : y.toInt.toNat = i at *
  generalize hww : w.toInt.toNat = j at *
  generalize hvv : v.toInt.toNat = m at *
  subst ey
  subst ew
  subst ev
  have cl : qK sl sx 1000 123 [.ref 4, .int (nI s), .int (nI i), .int (nI t), .int (nI j), .int (nI m)] M = some (some (.int (nI m)), (M.1, q_uc M.2 (37 + 2 * t) (va_cpy (M.2 (37 + 2 * s)) (M.2 (37 + 2 * t)) i j m))) := by
    rw [cb2, if_pos p2, if_neg n10, qS_A hq, qS_A hq2, show 36 + 2 * s + 1 = 37 + 2 * s by omega, show 36 + 2 * t + 1 = 37 + 2 * t by omega, k_cpyL hs ht (by omega) (by omega)]
  obtain ⟨M1, e1⟩ : ∃ M1, M1 = ((M.1, q_uc M.2 (37 + 2 * t) (va_cpy (M.2 (37 + 2 * s)) (M.2 (37 + 2 * t)) i j m)) : QM) := ⟨_, rfl⟩
  rw [← e1] at cl
  have r0 := k9_sh0 (sl := sl) (sx := sx) (d := 998) (M := M1) (s := s) (t := t) (o := o) (zs := zs) (zt := zt) (x := nI i) (y := nI j) (z := nI m) hs ht (by rw [e1]; exact h1) (by rw [e1]; exact g1) (by rw [e1]; exact h2) (by rw [e1]; exact g2) (by rw [e1]; exact h4) (by rw [e1]; exact g4) hzs hzt p1 p2
  obtain ⟨N', M2, a0, a1, a2, a3, a4⟩ := k9_shA (sl := sl) (sx := sx) (d := 999) (s := s) (i := i) (m := m) (t := t) (j := j) hs (by omega) m 0 q_n1 M1 rfl (q_n1b (by omega))
  obtain ⟨M3, b1, b2, b3, b4⟩ := k9_shB (sl := sl) (sx := sx) (d := 999) (t := t) (j := j) (m := m) ht (by omega) m 0 N' M2 rfl (by have := q_n1b (k := 500) (by decide); omega)
  have rf : qK sl sx 1000 254 [.ref 48, .int (nI s), .int (nI i), .int (nI t), .int (nI j), .int (nI m)] M1 = some (some (.int (nI m)), M3) := by
    rw [r0]
    exact a1.trans b1
  have e31 : M3.1 = M.1 := by rw [b2, a2, e1]
  have e75 : ∀ k, M3.2 75 k = if 60 * t + j ≤ k ∧ k < 60 * t + j + m then M.2 75 (60 * s + i + (k - (60 * t + j))) else M.2 75 k := by
    intro k
    have m75 : ∀ k, M1.2 75 k = M.2 75 k := by
      intro k
      rw [e1]
      exact q_uc_a _ _ _ (by omega)
    rw [b4 k]
    rw [Nat.add_zero]
    by_cases q : 60 * t + j ≤ k ∧ k < 60 * t + j + m
    · rw [if_pos q, if_pos q, a4, if_pos (by omega), m75]
    · rw [if_neg q, if_neg q, a3 _ _ (by decide), m75]
  have eo : ∀ a k, a ≠ 75 → a ≠ 76 → M3.2 a k = M1.2 a k := fun a k q1 q2 => by rw [b3 a k q1, a3 a k q2]
  have ff : Fr [237, 239, 241, 243, 245, 247, 275, 276] M M3 := by
    refine ⟨fun a k _ => by rw [e31], fun a k e => ?_⟩
    have h75 : a ≠ 75 := by rintro rfl; exact absurd e (by decide)
    have h76 : a ≠ 76 := by rintro rfl; exact absurd e (by decide)
    rw [eo a k h75 h76, e1]
    exact (fr_luc (l := [237, 239, 241, 243, 245, 247, 275, 276]) (M := M) ht rfl fr_rf).2 a k e
  refine ⟨nI m, M1, M3, cl, rf, n, b, jF_fr rfl ff hF, jT_fr rfl ff hT, jL_fr rfl ff hL, jC_fr rfl ff hC, jD_fr rfl ff hD, jK_fr rfl ff hK, jS_fr rfl ff hS, jH_at (s := t) hH (fun s' k1 k2 => ?_) (Or.inr (Or.inr ⟨?_, o, zt, ho2, hzt, ?_, ?_, ?_, ?_, fun k hk => ?_⟩))⟩
  · rw [e31]
    refine ⟨fun _ => rfl, fun k hk => ?_, rfl, rfl, rfl, rfl, fun k hk => ?_⟩
    · rw [eo _ _ (by omega) (by omega), e1]
      exact q_uc_a _ _ _ (by omega)
    · rw [e75, if_neg (by omega)]
  · rw [e31]; exact g1
  · rw [e31]; exact g2
  · rw [e31]; exact g3
  · rw [e31]; exact g4
  · rw [e31]; exact g5
  · dsimp only
    rw [e75, eo _ _ (by omega) (by omega), e1]
    dsimp only
    rw [q_uc_s]
    unfold va_cpy
    by_cases q : j ≤ k ∧ k < j + m
    · rw [if_pos q, if_pos (by omega)]
      have := h6 (i + (k - j)) (by omega)
      dsimp only at this
      rw [show 60 * s + i + (60 * t + k - (60 * t + j)) = 60 * s + (i + (k - j)) by omega]
      exact this
    · rw [if_neg q, if_neg (by omega)]
      exact g6 k hk
end SHIFT
