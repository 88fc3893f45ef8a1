/-! PAIRS: row, put, shift, farms (wip/whole/f) -/
def lowv (o : Nat) (v : Int64) : Int64 := if o = 0 then v.toInt32.toInt8.toInt32.toInt64 else if o = 1 then v.toInt32.toInt16.toInt32.toInt64 else if o = 2 then v.toInt32.toInt64 else if o = 3 then v else if lg_cmp v 0 = 0 then 0 else 1
theorem fr_lu {s : Nat} (hs : s < 6) {l : List Nat} {M : QM} {h : Nat → Nat → Int32} {g : Nat → Nat → Int64} {k : Nat} {v : Int64} (e : [237, 239, 241, 243, 245, 247].all (fun x => l.elem x) = true) (h1 : Fr l M (h, g)) : Fr l M (h, q_up g (37 + 2 * s) k v) := by
  rw [List.all_eq_true] at e
  refine fr_up2 (e _ ?_) h1
  have : s = 0 ∨ s = 1 ∨ s = 2 ∨ s = 3 ∨ s = 4 ∨ s = 5 := by omega
  rcases this with rfl | rfl | rfl | rfl | rfl | rfl <;> decide
theorem fr_su {s : Nat} (hs : s < 6) {l : List Nat} {M : QM} {h : Nat → Nat → Int32} {g : Nat → Nat → Int64} {k : Nat} {v : Int32} (e : [36, 38, 40, 42, 44, 46].all (fun x => l.elem x) = true) (h1 : Fr l M (h, g)) : Fr l M (q_up h (36 + 2 * s) k v, g) := by
  rw [List.all_eq_true] at e
  refine fr_up (e _ ?_) h1
  have : s = 0 ∨ s = 1 ∨ s = 2 ∨ s = 3 ∨ s = 4 ∨ s = 5 := by omega
  rcases this with rfl | rfl | rfl | rfl | rfl | rfl <;> exact List.elem_iff.mp rfl
section ROWS
variable {sl : Nat} {sx : Nat → Int32} {d n s : Nat} {M : QM} {x y z : Int32} {v : Int64}
theorem k_lowest {o a : Nat} (hq : qIsS a) (ho : o < 5) (h : M.1 a 0 = nI o) : qK sl sx (d + 1) 58 [.ref a, .long v] M = some (some (.long (lowv o v)), M) := by
  rw [e_X5_lowest, b_X5_lowest_0, qS_O hq, h]
  have : o = 0 ∨ o = 1 ∨ o = 2 ∨ o = 3 ∨ o = 4 := by omega
  rcases this with rfl | rfl | rfl | rfl | rfl
  · rfl
  · rfl
  · rfl
  · rfl
  · rw [if_neg (by decide), if_neg (by decide), if_neg (by decide), if_neg (by decide), if_pos (by decide)]
    rw [show lowv 4 v = (if lg_cmp v 0 = 0 then 0 else 1) from rfl]
    split <;> rfl
theorem k_writeL {o z i : Nat} (hs : s < 6) (ho : o < 5) (h : M.1 (36 + 2 * s) 0 = nI o) (hz : M.1 (36 + 2 * s) 1 = nI z) (hz6 : z ≤ 60) (hi : i < z) : qK sl sx (d + 2) 57 [.ref (36 + 2 * s), .int (nI i), .long v] M = some (none, (M.1, q_up M.2 (37 + 2 * s) i (lowv o v))) := by
  have hq := qs_is hs
  have q1 : ¬ Int32.ofNat 60 ≤ nI i := nI_ge (show i < 60 by omega) (by decide)
  have q2 : ¬ (nI i < 0 ∨ 60 ≤ (nI i).toNatClampNeg) := nI_in (by omega) (by decide)
  rw [e_X5_write, b_X5_write_0, qS_rc hq, k_hasPlaceZ hq hz hz6, nI_toInt (by omega), if_pos (by omega), q_bi_s, if_neg n10, qS_A hq, qS_len hq, if_neg q1, qS_A hq, qS_rc hq, k_lowest hq ho h, q_bl_s, qS_arO hq, if_neg q2, nI_clamp (by omega), show 36 + 2 * s + 1 = 37 + 2 * s by omega]
theorem k9_bars0 (hs : s < 6) (h : M.1 71 s = 0) : qK sl sx (d + 2) 250 [.ref 48, .int (nI s)] M = some (some (.int (-11)), M) := by
  rw [e_X9_barsOfRow, b_X9_barsOfRow_0, k9_isShelfY hs, q_bi_s, if_neg n10, if_neg (s6 hs), s6c hs, h, if_pos rfl]
theorem k9_bars1 (hs : s < 6) (h : M.1 71 s = 1) : qK sl sx (d + 2) 250 [.ref 48, .int (nI s)] M = some (some (.int (-12)), M) := by
  rw [e_X9_barsOfRow, b_X9_barsOfRow_0, k9_isShelfY hs, q_bi_s, if_neg n10, if_neg (s6 hs), s6c hs, h, if_neg n10, if_neg (s6n hs), if_pos rfl]
theorem k9_bars2 (hs : s < 6) (h : M.1 71 s = 2) : qK sl sx (d + 2) 250 [.ref 48, .int (nI s)] M = some (some (.int 0), M) := by
  rw [e_X9_barsOfRow, b_X9_barsOfRow_0, k9_isShelfY hs, q_bi_s, if_neg n10, if_neg (s6 hs), s6c hs, h, if_neg (by decide), if_neg (s6n hs), if_neg (by decide)]
theorem p_put (x y : Int32) (v : Int64) : QPi sl sx JA 121 252 [.int x, .int y, .long v] := by
  intro M hJ
  obtain ⟨n, b, hF, hT, hL, hC, hD, hK, hS, hH⟩ := id hJ
  rcases in6 (x := x) with hx | hx
  · have ex : x = nI x.toInt.toNat := q_ofN hx.1
    have hs : x.toInt.toNat < 6 := by omega
    generalize x.toInt.toNat = s at *
    subst ex
    have hq := qs_is hs
    rcases hH s hs with ⟨h1, h2⟩ | ⟨h1, h2, _⟩ | ⟨h1, o, z, ho, hz, h2, h3, h4, h5, h6⟩
    · refine ⟨-11, M, M, ?_, ?_, hJ⟩
      · rw [e_X8_put, b_X8_put_0, k_shelfY hs, q_br_s, qS_rc hq, k_holdsRow hq, h2, if_pos (by decide), q_bi_s, if_pos rfl, qS_rc hq, k_refusal hq, h2, if_pos rfl, q_bi_s]
      · rw [e_X9_put, b_X9_put_0, k9_bars0 hs h1, q_bi_s, if_neg (by decide)]
    · refine ⟨-12, M, M, ?_, ?_, hJ⟩
      · rw [e_X8_put, b_X8_put_0, k_shelfY hs, q_br_s, qS_rc hq, k_holdsRow hq, h2, if_pos (by decide), q_bi_s, if_pos rfl, qS_rc hq, k_refusal hq, h2, if_neg (by decide), q_bi_s]
      · rw [e_X9_put, b_X9_put_0, k9_bars1 hs h1, q_bi_s, if_neg (by decide)]
    · have hr : ∀ d, qK sl sx (d + 1) 48 [.ref (36 + 2 * s)] M = some (some (.int 1), M) := fun d => by
        rw [k_holdsRow hq, h3, if_neg (nI_pos (by omega))]
      by_cases g : 0 ≤ y.toInt ∧ y.toInt < z
      · have ey : y = nI y.toInt.toNat := q_ofN g.1
        have hi : y.toInt.toNat < z := by omega
        have gi : 0 ≤ (nI y.toInt.toNat).toInt ∧ (nI y.toInt.toNat).toInt < z := by rw [← ey]; exact g
        clear g
        generalize y.toInt.toNat = i at *
        subst ey
        obtain ⟨a1, a2, a3⟩ := cell_ix hs (show i < 60 by omega)
        have cl : qK sl sx 1000 121 [.ref 4, .int (nI s), .int (nI i), .long v] M = some (some (.int 1), (M.1, q_up M.2 (37 + 2 * s) i (lowv o v))) := by
          rw [e_X8_put, b_X8_put_0, k_shelfY hs, q_br_s, qS_rc hq, hr, q_bi_s, if_neg n10, qS_rc hq, k_hasPlaceZ hq h5 hz, if_pos gi, q_bi_s, if_neg n10, qS_rc hq, k_writeL hs ho h3 h5 hz hi, q_bv_s]
        have rf : qK sl sx 1000 252 [.ref 48, .int (nI s), .int (nI i), .long v] (M.1, q_up M.2 (37 + 2 * s) i (lowv o v)) = some (some (.int 1), (M.1, q_up (q_up M.2 (37 + 2 * s) i (lowv o v)) 75 (60 * s + i) (lowv o v))) := by
          rw [e_X9_put, b_X9_put_0, k9_bars2 (M := (M.1, q_up M.2 (37 + 2 * s) i (lowv o v))) hs h1, q_bi_s, if_pos rfl, k9_isElement (M := (M.1, q_up M.2 (37 + 2 * s) i (lowv o v))) hs h4 hz, if_pos gi, q_bi_s, if_neg n10, a1, if_neg a2, if_neg a2, if_neg a2, if_neg a2, if_neg a2, if_neg a2, a3, if_neg (s6 hs), if_neg (s6 hs), if_neg (s6 hs), if_neg (s6 hs), s6c hs]
          dsimp only
          rw [h2]
          have : o = 0 ∨ o = 1 ∨ o = 2 ∨ o = 3 ∨ o = 4 := by omega
          rcases this with rfl | rfl | rfl | rfl | rfl
          · rfl
          · rfl
          · rfl
          · rfl
          · rw [if_neg (by decide), if_neg (by decide), if_neg (by decide), if_neg (by decide)]
            rw [show lowv 4 v = (if lg_cmp v 0 = 0 then 0 else 1) from rfl]
            split <;> rfl
        have ff : Fr [237, 239, 241, 243, 245, 247, 275] M (M.1, q_up (q_up M.2 (37 + 2 * s) i (lowv o v)) 75 (60 * s + i) (lowv o v)) := fr_up2 rfl (fr_lu hs rfl fr_rf)
        refine ⟨1, _, _, cl, rf, n, b, jF_fr rfl ff hF, jT_fr rfl ff hT, jL_fr rfl ff hL, jC_fr rfl ff hC, jD_fr rfl ff hD, jK_fr rfl ff hK, jS_fr rfl ff hS, jH_at (s := s) hH (fun s' g1 g2 => ?_) (Or.inr (Or.inr ⟨h1, o, z, ho, hz, h2, h3, h4, h5, fun j hj => ?_⟩))⟩
        · refine ⟨fun _ => rfl, fun j hj => ?_, rfl, rfl, rfl, rfl, fun j hj => ?_⟩ <;> dsimp only <;> simp (disch := omega) only [q_up_s, q_up_a, q_up_k, q_uc_a, q_uc_s]
        · dsimp only
          by_cases q : j = i
          · subst q
            rw [q_up_s, q_up_a _ _ _ _ (by omega), q_up_s]
            refine ⟨rfl, fun o0 => ?_⟩
            subst o0
            show (v.toInt32.toInt8.toInt32.toInt64).toInt32.toInt64 = v.toInt32.toInt8.toInt32.toInt64
            rw [Int32.toInt32_toInt64]
          · rw [q_up_a _ _ _ _ (by omega), q_up_k _ _ _ _ q, q_up_k _ _ _ _ (by omega), q_up_a _ _ _ _ (by omega)]
            exact h6 j hj
      · refine ⟨-13, M, M, ?_, ?_, hJ⟩
        · rw [e_X8_put, b_X8_put_0, k_shelfY hs, q_br_s, qS_rc hq, hr, q_bi_s, if_neg n10, qS_rc hq, k_hasPlaceZ hq h5 hz, if_neg g, q_bi_s, if_pos rfl]
        · rw [e_X9_put, b_X9_put_0, k9_bars2 hs h1, q_bi_s, if_pos rfl, k9_isElement hs h4 hz, if_neg g, q_bi_s, if_pos rfl]
  · refine ⟨-1, M, M, ?_, ?_, hJ⟩
    · rw [e_X8_put, b_X8_put_0, k_shelfN hx, q_br_n]
    · rw [e_X9_put, b_X9_put_0, e_X9_barsOfRow, b_X9_barsOfRow_0, k9_isShelfN hx, q_bi_s, if_pos rfl, q_bi_s, if_neg (by decide)]
theorem k_layRow {o z : Nat} (hs : s < 6) (hz : z ≤ 60) : ∃ M', qK sl sx (d + 1) 53 [.ref (36 + 2 * s), .int (nI o), .int (nI z)] M = some (none, M') ∧ M'.1 = q_up (q_up M.1 (36 + 2 * s) 0 (nI o)) (36 + 2 * s) 1 (nI z) ∧ (∀ i, i < 60 → M'.2 (37 + 2 * s) i = 0) ∧ Fr [36, 38, 40, 42, 44, 46, 237, 239, 241, 243, 245, 247] M M' ∧ ∀ a i, a ≠ 37 + 2 * s → M'.2 a i = M.2 a i := by
  have hq := qs_is hs
  have ez : (if 0 < (if nI z < 60 then nI z else 60 : Int32) then (if nI z < 60 then nI z else 60 : Int32) else 0 : Int32) = nI z := by
    simp only [Int32.lt_iff_toInt_lt, nI_toInt (show z < 2 ^ 31 by omega), qv_60, qv_0]
    by_cases q : (z : Int) < 60
    · rw [if_pos q]
      by_cases q0 : 0 < (nI z).toInt
      · rw [if_pos q0]
      · rw [if_neg q0]
        rw [nI_toInt (by omega)] at q0
        have : z = 0 := by omega
        rw [this]; rfl
    · rw [if_neg q, qv_60, if_pos (by decide), show z = 60 by omega]
      rfl
  rw [e_X5_layRow, b_X5_layRow_0, qS_O hq, qS_O hq, ez]
  refine q_lu (fun k i (_ : Unit) M' => qF sl sx d 53 k 21 [some (.ref (36 + 2 * s)), none, none, some (.int (nI i))] [] M') 60 (fun i _ M' => M'.1 = q_up (q_up M.1 (36 + 2 * s) 0 (nI o)) (36 + 2 * s) 1 (nI z) ∧ (∀ j, j < i → M'.2 (37 + 2 * s) j = 0) ∧ Fr [36, 38, 40, 42, 44, 46, 237, 239, 241, 243, 245, 247] M M' ∧ ∀ a i, a ≠ 37 + 2 * s → M'.2 a i = M.2 a i) (fun o' => ∃ M', o' = some (none, M') ∧ M'.1 = q_up (q_up M.1 (36 + 2 * s) 0 (nI o)) (36 + 2 * s) 1 (nI z) ∧ (∀ i, i < 60 → M'.2 (37 + 2 * s) i = 0) ∧ Fr [36, 38, 40, 42, 44, 46, 237, 239, 241, 243, 245, 247] M M' ∧ ∀ a i, a ≠ 37 + 2 * s → M'.2 a i = M.2 a i) (fun k i _ M' hi hI => ?_) (fun k _ M' hI => ?_) (i := 0) (s := ()) (Nat.zero_le _) (q_n1b (by decide)) ⟨rfl, fun j hj => by omega, fr_su hs rfl (fr_su hs rfl fr_rf), fun _ _ _ => rfl⟩
  · obtain ⟨i1, i2, i3, i4⟩ := hI
    right
    refine ⟨(), (M'.1, q_up M'.2 (37 + 2 * s) i 0), ⟨i1, fun j hj => ?_, fr_lu hs rfl i3, fun a j ha => ?_⟩, ?_⟩
    · dsimp only
      by_cases q : j = i
      · rw [q, q_up_s]
      · rw [q_up_k _ _ _ _ q]
        exact i2 j (by omega)
    · dsimp only
      rw [q_up_a _ _ _ _ ha]
      exact i4 a j ha
    · rw [b_X5_layRow_21, qS_A hq, qS_len hq, if_neg (show ¬ Int32.ofNat 60 ≤ nI i from nI_ge hi (by decide)), qS_A hq, qS_arO hq, if_neg (nI_in hi (by decide)), nI_1, nI_clamp (by omega), show 36 + 2 * s + 1 = 37 + 2 * s by omega]
  · obtain ⟨i1, i2, i3, i4⟩ := hI
    refine ⟨M', ?_, i1, i2, i3, i4⟩
    rw [b_X5_layRow_21, qS_A hq, qS_len hq, if_pos (show Int32.ofNat 60 ≤ nI 60 from Int32.le_refl _)]
theorem k9_rowL (hs : s < 6) : ∀ (k i N : Nat) (M : QM), k + i = 60 → k < N → ∃ M', qF sl sx d 249 N 57 [some (.ref 48), some (.int (nI s)), none, none, some (.int (nI i))] [] M = some (some (.int 1), M') ∧ M'.1 = M.1 ∧ (∀ a j, a ≠ 75 → M'.2 a j = M.2 a j) ∧ ∀ j, M'.2 75 j = if 60 * s + i ≤ j ∧ j < 60 * s + 60 then 0 else M.2 75 j := by
  intro k
  induction k with
  | zero =>
    intro i N M hi hN
    obtain ⟨N, rfl⟩ : ∃ N', N = N' + 1 := ⟨N - 1, by omega⟩
    refine ⟨M, ?_, rfl, fun _ _ _ => rfl, fun j => ?_⟩
    · rw [b_X9_row_57, if_pos (show (60 : Int32) ≤ nI i by rw [Int32.le_iff_toInt_le, nI_toInt (by omega), qv_60]; omega)]
    · rw [if_neg (by omega)]
  | succ k ih =>
    intro i N M hi hN
    obtain ⟨N, rfl⟩ : ∃ N', N = N' + 1 := ⟨N - 1, by omega⟩
    obtain ⟨a1, a2, a3⟩ := cell_ix hs (show i < 60 by omega)
    obtain ⟨M', g1, g2, g3, g4⟩ := ih (i + 1) N (M.1, q_up M.2 75 (60 * s + i) 0) (by omega) (by omega)
    refine ⟨M', ?_, g2, fun a j ha => ?_, fun j => ?_⟩
    · rw [b_X9_row_57, if_neg (show ¬ (60 : Int32) ≤ nI i by rw [Int32.le_iff_toInt_le, nI_toInt (by omega), qv_60]; omega), a1, if_neg a2, a3, nI_1]
      exact g1
    · rw [g3 a j ha]
      dsimp only
      rw [q_up_a _ _ _ _ ha]
    · rw [g4 j]
      dsimp only
      by_cases q : j = 60 * s + i
      · rw [q, q_up_s, if_neg (by omega), if_pos (by omega)]
      · rw [q_up_k _ _ _ _ q]
        by_cases w : 60 * s + (i + 1) ≤ j ∧ j < 60 * s + 60
        · rw [if_pos w, if_pos (by omega)]
        · rw [if_neg w, if_neg (by omega)]
theorem p_row (x y z : Int32) : QPi sl sx JA 120 249 [.int x, .int y, .int z] := by
  intro M hJ
  obtain ⟨n, b, hF, hT, hL, hC, hD, hK, hS, hH⟩ := id hJ
  have hm : ∀ M' : QM, qK sl sx 999 126 [.int y, .int 4] M' = some (some (.int (if rg y 4 then 1 else 0)), M') := fun M' => k_within
  have hm9 : ∀ M' : QM, qK sl sx 999 151 [.ref 48, .int y, .int 0, .int 4] M' = some (some (.int (if rg y 4 then 1 else 0)), M') := fun M' => k9_isIn
  rcases in6 (x := x) with hx | hx
  · have ex : x = nI x.toInt.toNat := q_ofN hx.1
    have hs : x.toInt.toNat < 6 := by omega
    generalize x.toInt.toNat = s at *
    subst ex
    have hq := qs_is hs
    by_cases r : rg y 4
    · by_cases c : z ≤ 60
      · by_cases c0 : 0 ≤ z
        · have ey : y = nI y.toInt.toNat := q_ofN r.1
          have ho : y.toInt.toNat < 5 := by have := r.2; omega
          have c' : z.toInt ≤ 60 := by rw [Int32.le_iff_toInt_le, qv_60] at c; exact c
          have c0' : 0 ≤ z.toInt := by rw [Int32.le_iff_toInt_le, qv_0] at c0; exact c0
          have ez : z = nI z.toInt.toNat := q_ofN c0'
          have hz : z.toInt.toNat ≤ 60 := by omega
          clear c' c0'
          generalize y.toInt.toNat = o at *
          generalize z.toInt.toNat = z' at *
          subst ey
          subst ez
          obtain ⟨M1, g1, g2, g3, g4, g5⟩ := k_layRow (sl := sl) (sx := sx) (d := 998) (M := M) (o := o) (z := z') hs hz
          have cl : qK sl sx 1000 120 [.ref 4, .int (nI s), .int (nI o), .int (nI z')] M = some (some (.int 1), M1) := by
            rw [e_X8_row, b_X8_row_0, k_shelfY hs, q_br_s, hm, if_pos r, q_bi_s, if_neg n10, if_pos c, if_pos c0, qS_rc hq, g1, q_bv_s]
          obtain ⟨M2, r1, r2, r3, r4⟩ := k9_rowL (sl := sl) (sx := sx) (d := 999) hs 60 0 q_n1 (q_up (q_up (q_up M1.1 71 s 2) 72 s (nI o)) 73 s (nI z'), M1.2) rfl (q_n1b (by decide))
          have rf : qK sl sx 1000 249 [.ref 48, .int (nI s), .int (nI o), .int (nI z')] M1 = some (some (.int 1), M2) := by
            rw [e_X9_row, b_X9_row_0, k9_isShelfY hs, q_bi_s, if_neg n10, hm9, if_pos r, q_bi_s, if_neg n10, if_pos c, if_pos c0, if_neg (s6 hs), if_neg (s6 hs), if_neg (s6 hs), s6c hs]
            exact r1
          have f2 : Fr [71, 72, 73, 275] M1 M2 := by
            refine ⟨fun a k e => ?_, fun a k e => ?_⟩
            · rw [r2]
              exact (fr_up (l := [71, 72, 73, 275]) rfl (fr_up rfl (fr_up rfl (fr_rf (M := M1))))).1 a k e
            · refine r3 a k ?_
              rintro rfl
              exact absurd e (by decide)
          have ff := fr_t2 (l := [36, 38, 40, 42, 44, 46, 237, 239, 241, 243, 245, 247, 71, 72, 73, 275]) rfl rfl g4 f2
          refine ⟨1, M1, M2, cl, rf, n, b, jF_fr rfl ff hF, jT_fr rfl ff hT, jL_fr rfl ff hL, jC_fr rfl ff hC, jD_fr rfl ff hD, jK_fr rfl ff hK, jS_fr rfl ff hS, jH_at (s := s) hH (fun s' h1 h2 => ?_) (Or.inr (Or.inr ⟨?_, o, z', ho, hz, ?_, ?_, ?_, ?_, fun j hj => ?_⟩))⟩
          · rw [r2]
            dsimp only
            rw [g2]
            refine ⟨fun k => ?_, fun i hi => ?_, ?_, ?_, ?_, ?_, fun i hi => ?_⟩
            · simp (disch := omega) only [q_up_s, q_up_a, q_up_k, q_uc_a, q_uc_s]
            · rw [r3 _ _ (by omega)]
              exact g5 _ _ (by omega)
            · simp (disch := omega) only [q_up_s, q_up_a, q_up_k, q_uc_a, q_uc_s]
            · simp (disch := omega) only [q_up_s, q_up_a, q_up_k, q_uc_a, q_uc_s]
            · simp (disch := omega) only [q_up_s, q_up_a, q_up_k, q_uc_a, q_uc_s]
            · simp (disch := omega) only [q_up_s, q_up_a, q_up_k, q_uc_a, q_uc_s]
            · rw [r4, if_neg (by omega)]
              exact g5 _ _ (by omega)
          · rw [r2]
            dsimp only
            simp (disch := omega) only [q_up_s, q_up_a, q_up_k, q_uc_a, q_uc_s]
          · rw [r2]
            dsimp only
            simp (disch := omega) only [q_up_s, q_up_a, q_up_k, q_uc_a, q_uc_s]
          · rw [r2]
            dsimp only
            rw [g2]
            simp (disch := omega) only [q_up_s, q_up_a, q_up_k, q_uc_a, q_uc_s]
          · rw [r2]
            dsimp only
            simp (disch := omega) only [q_up_s, q_up_a, q_up_k, q_uc_a, q_uc_s]
          · rw [r2]
            dsimp only
            rw [g2]
            simp (disch := omega) only [q_up_s, q_up_a, q_up_k, q_uc_a, q_uc_s]
          · rw [r3 _ _ (by omega), g3 j hj]
            dsimp only
            rw [r4, if_pos (by omega)]
            exact ⟨rfl, fun _ => by decide⟩
        · refine ⟨-14, M, M, ?_, ?_, hJ⟩
          · rw [e_X8_row, b_X8_row_0, k_shelfY hs, q_br_s, hm, if_pos r, q_bi_s, if_neg n10, if_pos c, if_neg c0]
          · rw [e_X9_row, b_X9_row_0, k9_isShelfY hs, q_bi_s, if_neg n10, hm9, if_pos r, q_bi_s, if_neg n10, if_pos c, if_neg c0]
      · refine ⟨-1, M, M, ?_, ?_, hJ⟩
        · rw [e_X8_row, b_X8_row_0, k_shelfY hs, q_br_s, hm, if_pos r, q_bi_s, if_neg n10, if_neg c]
        · rw [e_X9_row, b_X9_row_0, k9_isShelfY hs, q_bi_s, if_neg n10, hm9, if_pos r, q_bi_s, if_neg n10, if_neg c]
    · refine ⟨-1, M, M, ?_, ?_, hJ⟩
      · rw [e_X8_row, b_X8_row_0, k_shelfY hs, q_br_s, hm, if_neg r, q_bi_s, if_pos rfl]
      · rw [e_X9_row, b_X9_row_0, k9_isShelfY hs, q_bi_s, if_neg n10, hm9, if_neg r, q_bi_s, if_pos rfl]
  · refine ⟨-1, M, M, ?_, ?_, hJ⟩
    · rw [e_X8_row, b_X8_row_0, k_shelfN hx, q_br_n]
    · rw [e_X9_row, b_X9_row_0, k9_isShelfN hx, q_bi_s, if_pos rfl]
end ROWS
