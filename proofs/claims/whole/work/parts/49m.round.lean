/-! PAIRS: round, late (wip/whole/f) -/
/-- from where on a day comes again after L minutes -/
def af (h : Nat → Int32) (L : Nat) : Nat → Nat
  | 0 => 0
  | k + 1 => if h k = h (k + L) then af h L k else k + 1
def aw (h : Nat → Int32) (L : Nat) : Nat := af h L (301 - L)
theorem af_le (h : Nat → Int32) (L k : Nat) : af h L k ≤ k := by
  induction k with
  | zero => exact Nat.le_refl _
  | succ k ih => rw [af]; split <;> omega
theorem af_in (h : Nat → Int32) (L : Nat) : ∀ k m, af h L k ≤ m → m < k → h m = h (m + L) := by
  intro k
  induction k with
  | zero => intro m _ h2; omega
  | succ k ih =>
    intro m h1 h2
    rw [af] at h1
    by_cases c : h k = h (k + L)
    · rw [if_pos c] at h1
      rcases Nat.lt_or_ge m k with q | q
      · exact ih m h1 q
      · have : m = k := by omega
        rw [this]; exact c
    · rw [if_neg c] at h1
      omega
theorem af_out (h : Nat → Int32) (L : Nat) : ∀ k, 0 < af h L k → h (af h L k - 1) ≠ h (af h L k - 1 + L) := by
  intro k
  induction k with
  | zero => intro h1; exact absurd h1 (Nat.lt_irrefl 0)
  | succ k ih =>
    rw [af]
    by_cases c : h k = h (k + L)
    · rw [if_pos c]; exact ih
    · rw [if_neg c]
      intro _
      exact c
theorem aw_iff (h : Nat → Int32) {L s : Nat} (hL : L ≤ 60) : (∀ m, s ≤ m → m + L ≤ 300 → h m = h (m + L)) ↔ aw h L ≤ s := by
  constructor
  · intro a
    rcases Nat.lt_or_ge s (aw h L) with q | q
    · have h1 := af_out h L (301 - L) (by unfold aw at q; omega)
      have h2 := af_le h L (301 - L)
      exact absurd (a _ (by unfold aw at q; omega) (by unfold aw at q; omega)) h1
    · exact q
  · intro a m h1 h2
    exact af_in h L (301 - L) m (by unfold aw at a; omega) (by omega)
/-- the first of all, and its least length -/
def rc (h : Nat → Int32) : Nat → Option (Nat × Nat)
  | 0 => none
  | L + 1 => if aw h (L + 1) + 2 * (L + 1) ≤ 300 then (match rc h L with
      | none => some (aw h (L + 1), L + 1)
      | some p => if aw h (L + 1) < p.1 then some (aw h (L + 1), L + 1) else some p) else rc h L
theorem rc_none (h : Nat → Int32) : ∀ K, rc h K = none → ∀ L, 1 ≤ L → L ≤ K → ¬ (aw h L + 2 * L ≤ 300) := by
  intro K
  induction K with
  | zero => intro _ L h1 h2; omega
  | succ K ih =>
    intro e L h1 h2
    rw [rc] at e
    by_cases c : aw h (K + 1) + 2 * (K + 1) ≤ 300
    · rw [if_pos c] at e
      cases hr : rc h K with
      | none => rw [hr] at e; exact absurd e (by simp)
      | some p => rw [hr] at e; dsimp only at e; split at e <;> exact absurd e (by simp)
    · rw [if_neg c] at e
      rcases Nat.lt_or_ge L (K + 1) with q | q
      · exact ih e L h1 (by omega)
      · rw [show L = K + 1 by omega]; exact c
theorem rc_some (h : Nat → Int32) : ∀ K p, rc h K = some p → 1 ≤ p.2 ∧ p.2 ≤ K ∧ aw h p.2 = p.1 ∧ p.1 + 2 * p.2 ≤ 300 ∧ ∀ L, 1 ≤ L → L ≤ K → aw h L + 2 * L ≤ 300 → p.1 < aw h L ∨ (p.1 = aw h L ∧ p.2 ≤ L) := by
  intro K
  induction K with
  | zero => intro p e; exact absurd e (by simp [rc])
  | succ K ih =>
    intro p e
    rw [rc] at e
    by_cases c : aw h (K + 1) + 2 * (K + 1) ≤ 300
    · rw [if_pos c] at e
      cases hr : rc h K with
      | none =>
        rw [hr] at e
        dsimp only at e
        injection e with e
        subst e
        refine ⟨by simp, Nat.le_refl _, rfl, c, fun L h1 h2 h3 => ?_⟩
        rcases Nat.lt_or_ge L (K + 1) with q | q
        · exact absurd h3 (rc_none h K hr L h1 (by omega))
        · rw [show L = K + 1 by omega]
          exact Or.inr ⟨rfl, Nat.le_refl _⟩
      | some p' =>
        rw [hr] at e
        dsimp only at e
        obtain ⟨i1, i2, i3, i4, i5⟩ := ih p' hr
        by_cases w : aw h (K + 1) < p'.1
        · rw [if_pos w] at e
          injection e with e
          subst e
          refine ⟨by simp, Nat.le_refl _, rfl, c, fun L h1 h2 h3 => ?_⟩
          dsimp only
          rcases Nat.lt_or_ge L (K + 1) with q | q
          · have := i5 L h1 (by omega) h3
            omega
          · rw [show L = K + 1 by omega]
            exact Or.inr ⟨rfl, Nat.le_refl _⟩
        · rw [if_neg w] at e
          injection e with e
          subst e
          refine ⟨i1, by omega, i3, i4, fun L h1 h2 h3 => ?_⟩
          rcases Nat.lt_or_ge L (K + 1) with q | q
          · exact i5 L h1 (by omega) h3
          · rw [show L = K + 1 by omega]
            omega
    · rw [if_neg c] at e
      obtain ⟨i1, i2, i3, i4, i5⟩ := ih p e
      refine ⟨i1, by omega, i3, i4, fun L h1 h2 h3 => ?_⟩
      rcases Nat.lt_or_ge L (K + 1) with q | q
      · exact i5 L h1 (by omega) h3
      · rw [show L = K + 1 by omega] at h3
        exact absurd h3 c
def rcV (o : Option (Nat × Nat)) (x : Int32) : Int32 := match o with
  | none => -2
  | some p => if x = 0 then nI p.1 else nI p.2
def rc1 (o : Option (Nat × Nat)) : Int32 := match o with
  | none => -2
  | some p => nI p.1
def rc2 (o : Option (Nat × Nat)) : Int32 := match o with
  | none => -2
  | some p => nI p.2
section ROUND
variable {sl : Nat} {sx : Nat → Int32} {d n s : Nat} {M : QM} {x y z : Int32}
theorem k_anew {t L : Nat} {h : Nat → Int32} (ht : qIsT t) (hT : TW M t 300 h) (h1 : 1 ≤ L) (h2 : L ≤ 60) : qK sl sx (d + 2) 78 [.ref t, .int (nI L)] M = some (some (.int (if aw h L + 2 * L ≤ 300 then nI (aw h L) else -2)), M) := by
  rw [e_X7_anewFrom, b_X7_anewFrom_0, qT_O ht, hT.1, pk_sub (by omega), nI_1, show 300 - L + 1 = 301 - L by omega]
  have e2 : (2 : Int32) = nI 2 := by decide
  have main : ∀ k N, k ≤ 301 - L → af h L k = aw h L → k < N → qF sl sx (d + 1) 78 N 9 [some (.ref t), some (.int (nI L)), some (.int (nI k))] [] M = some (some (.int (if aw h L + 2 * L ≤ 300 then nI (aw h L) else -2)), M) := by
    intro k
    induction k with
    | zero =>
      intro N hk hs hN
      obtain ⟨N, rfl⟩ : ∃ N', N = N' + 1 := ⟨N - 1, by omega⟩
      rw [b_X7_anewFrom_9, if_pos (by decide), qT_O ht, hT.1, e2, pk_mul, pk_sub (by omega), if_pos (nI_le (by omega) (by omega)), ← hs]
      show _ = some (some (Value.int (if 0 + 2 * L ≤ 300 then nI 0 else -2)), M)
      rw [if_pos (by omega)]
    | succ k ih =>
      intro N hk hs hN
      obtain ⟨N, rfl⟩ : ∃ N', N = N' + 1 := ⟨N - 1, by omega⟩
      rw [b_X7_anewFrom_9, if_neg (nI_nle (by omega) (by omega)), nI_pred, qT_rc ht, k_atN ht hT (by omega), q_bi_s, qT_rc ht, nI_add, k_atN ht hT (by omega), q_bi_s]
      by_cases c : h k = h (k + L)
      · rw [if_pos c, pk_m1]
        rw [af, if_pos c] at hs
        exact ih N (by omega) hs (by omega)
      · rw [if_neg c, qT_O ht, hT.1, e2, pk_mul, pk_sub (by omega)]
        rw [af, if_neg c] at hs
        rw [← hs]
        by_cases e : k + 1 + 2 * L ≤ 300
        · rw [if_pos (nI_le (by omega) (by omega)), if_pos e]
        · rw [if_neg (nI_ge (by omega) (by omega)), if_neg e]
  exact main (301 - L) q_n1 (Nat.le_refl _) rfl (q_n1b (by omega))
theorem k_roundL {h : Nat → Int32} (hT : TW M 9 300 h) : qF sl sx (d + 2) 91 q_n1 34 [some (.ref 4), some (.int x), some (.int (-2)), some (.int (-2)), some (.int 1), none] [] M = some (some (.int (rcV (rc h 60) x)), M) := by
  refine q_lc (fun k i (_ : Unit) => qF sl sx (d + 2) 91 k 34 [some (.ref 4), some (.int x), some (.int (rc1 (rc h i))), some (.int (rc2 (rc h i))), some (.int (nI (i + 1))), none] [] M) 60 (fun _ => ()) _ (fun k i hi => ?_) (fun k => ?_) 0 q_n1 (Nat.zero_le _) (q_n1b (by decide))
  · have nm : ∀ a : Nat, a < 2 ^ 31 → ¬ nI a = -2 := fun a ha e => by
      have := nI_pos ha
      rw [e] at this
      exact this (by decide)
    rw [b_X8_round_34, if_neg (show ¬ (60 : Int32) < nI (i + 1) by rw [Int32.lt_iff_toInt_lt, nI_toInt (by omega), qv_60]; omega), k_anew (Or.inl rfl) hT (by omega) (by omega), q_bi_s, nI_1]
    have alt := af_le h (i + 1) (301 - (i + 1))
    rw [rc]
    by_cases c : aw h (i + 1) + 2 * (i + 1) ≤ 300
    · rw [if_pos c, if_pos c, if_neg (nm _ (by unfold aw; omega))]
      cases hr : rc h i with
      | none =>
        rw [if_pos (show rc1 none = -2 from rfl)]
        try rfl
      | some p =>
        have hp := rc_some h i p hr
        show (if nI p.1 = -2 then _ else _) = _
        rw [if_neg (nm _ (by omega))]
        show (if nI p.1 ≤ nI (aw h (i + 1)) then _ else _) = _
        by_cases w : aw h (i + 1) < p.1
        · rw [if_neg (nI_ge w (by omega))]
          dsimp only
          rw [if_pos w]
          try rfl
        · rw [if_pos (nI_le (by omega) (by unfold aw; omega))]
          dsimp only
          rw [if_neg w]
          try rfl
    · rw [if_neg c, if_neg c, if_pos rfl]
  · rw [b_X8_round_34, if_pos (by decide)]
    cases hr : rc h 60 with
    | none =>
      show (if x = 0 then some (some (Value.int (-2)), M) else some (some (Value.int (-2)), M)) = some (some (Value.int (-2)), M)
      split <;> rfl
    | some p =>
      show (if x = 0 then some (some (Value.int (nI p.1)), M) else some (some (Value.int (nI p.2)), M)) = some (some (Value.int (if x = 0 then nI p.1 else nI p.2)), M)
      split <;> rfl
theorem k9_isAgain {h : Nat → Int32} {s L : Nat} (hT : ∀ j, j ≤ 300 → M.1 61 j = h j) (h2 : L ≤ 60) (hs : s + L ≤ 301) : qK sl sx (d + 1) 201 [.ref 48, .int (nI s), .int (nI L)] M = some (some (.int (if aw h L ≤ s then 1 else 0)), M) := by
  rw [e_X9_isAgain, b_X9_isAgain_0]
  have e300 : (300 : Int32) = nI 300 := by decide
  have main : ∀ k m N, k + m + L = 301 → s ≤ m → (∀ j, s ≤ j → j < m → h j = h (j + L)) → k < N → qF sl sx d 201 N 2 [some (.ref 48), none, some (.int (nI L)), some (.int (nI m))] [] M = some (some (.int (if aw h L ≤ s then 1 else 0)), M) := by
    intro k
    induction k with
    | zero =>
      intro m N hk hm hj hN
      obtain ⟨N, rfl⟩ : ∃ N', N = N' + 1 := ⟨N - 1, by omega⟩
      rw [b_X9_isAgain_2, e300, pk_sub (by omega), if_pos (nI_lt (by omega) (by omega)), if_pos]
      exact (aw_iff h h2).mp (fun j a1 a2 => hj j a1 (by omega))
    | succ k ih =>
      intro m N hk hm hj hN
      obtain ⟨N, rfl⟩ : ∃ N', N = N' + 1 := ⟨N - 1, by omega⟩
      rw [b_X9_isAgain_2, e300, pk_sub (by omega), if_neg (nI_nlt (by omega) (by omega)), nI_add, if_neg (nI_in (by omega) (by decide)), if_neg (nI_in (by omega) (by decide)), nI_clamp (by omega), nI_clamp (by omega), hT m (by omega), hT (m + L) (by omega)]
      by_cases c : h m = h (m + L)
      · rw [if_pos c, nI_1]
        refine ih (m + 1) N (by omega) (by omega) (fun j a1 a2 => ?_) (by omega)
        rcases Nat.lt_or_ge j m with q | q
        · exact hj j a1 q
        · rw [show j = m by omega]; exact c
      · rw [if_neg c, if_neg]
        intro q
        exact c ((aw_iff h h2).mpr q m hm (by omega))
  exact main (301 - s - L) s q_n1 (by omega) (Nat.le_refl _) (fun j a1 a2 => by omega) (q_n1b (by omega))
theorem k9_roundL {h : Nat → Int32} (hT : ∀ j, j ≤ 300 → M.1 61 j = h j) : qF sl sx (d + 1) 202 q_n1 21 [some (.ref 48), some (.int x), some (.int 0), none] [] M = some (some (.int (rcV (rc h 60) x)), M) := by
  have e300 : (300 : Int32) = nI 300 := by decide
  have e2 : (2 : Int32) = nI 2 := by decide
  -- the inner loop at s: none is found, or the answer is
  have inner : ∀ s, s ≤ 300 → ∀ k L N, k + L = 61 → 1 ≤ L → k < N → (∀ l, 1 ≤ l → l < L → s + 2 * l ≤ 300 → ¬ aw h l ≤ s) → (∃ L', L ≤ L' ∧ L' ≤ 60 ∧ s + 2 * L' ≤ 300 ∧ aw h L' ≤ s ∧ (∀ l, 1 ≤ l → l < L' → s + 2 * l ≤ 300 → ¬ aw h l ≤ s) ∧ qF sl sx (d + 1) 202 N 30 [some (.ref 48), some (.int x), some (.int (nI s)), some (.int (nI L))] [] M = some (some (.int (if x = 0 then nI s else nI L')), M)) ∨ ((∀ l, 1 ≤ l → l ≤ 60 → s + 2 * l ≤ 300 → ¬ aw h l ≤ s) ∧ ∃ N', N ≤ N' + k + 1 ∧ qF sl sx (d + 1) 202 N 30 [some (.ref 48), some (.int x), some (.int (nI s)), some (.int (nI L))] [] M = qF sl sx (d + 1) 202 N' 21 [some (.ref 48), some (.int x), some (.int (nI (s + 1))), none] [] M) := by
    intro s hs k
    induction k with
    | zero =>
      intro L N hk h1 hN hl
      obtain ⟨N, rfl⟩ : ∃ N', N = N' + 1 := ⟨N - 1, by omega⟩
      refine Or.inr ⟨fun l a1 a2 a3 => hl l a1 (by omega) a3, N, by omega, ?_⟩
      rw [b_X9_round_30, if_pos (show (60 : Int32) < nI L by rw [Int32.lt_iff_toInt_lt, nI_toInt (by omega), qv_60]; omega), nI_1]
    | succ k ih =>
      intro L N hk h1 hN hl
      obtain ⟨N, rfl⟩ : ∃ N', N = N' + 1 := ⟨N - 1, by omega⟩
      rw [b_X9_round_30, if_neg (show ¬ (60 : Int32) < nI L by rw [Int32.lt_iff_toInt_lt, nI_toInt (by omega), qv_60]; omega), e300, e2, pk_mul, pk_sub (by omega), nI_1]
      by_cases c : s + 2 * L ≤ 300
      · rw [if_neg (nI_nlt (by omega) (by omega)), k9_isAgain hT (by omega) (by omega), q_bi_s]
        by_cases w : aw h L ≤ s
        · rw [if_pos w, if_neg n10]
          refine Or.inl ⟨L, Nat.le_refl _, by omega, c, w, hl, ?_⟩
          split <;> rfl
        · rw [if_neg w, if_pos rfl, nI_1]
          rcases ih (L + 1) N (by omega) (by omega) (by omega) (fun l a1 a2 a3 => by
            rcases Nat.lt_or_ge l L with q | q
            · exact hl l a1 q a3
            · rw [show l = L by omega]; exact w) with ⟨L', g1, g2, g3, g4, g5, g6⟩ | ⟨g1, N', g2, g3⟩
          · exact Or.inl ⟨L', by omega, g2, g3, g4, g5, g6⟩
          · exact Or.inr ⟨g1, N', by omega, g3⟩
      · rw [if_pos (nI_lt (by omega) (by omega))]
        refine Or.inr ⟨fun l a1 a2 a3 => hl l a1 (by omega) a3, N, by omega, rfl⟩
  have outer : ∀ k s N, k + s = 301 → 70 * k + 1 < N → (∀ s' l, s' < s → 1 ≤ l → l ≤ 60 → s' + 2 * l ≤ 300 → ¬ aw h l ≤ s') → qF sl sx (d + 1) 202 N 21 [some (.ref 48), some (.int x), some (.int (nI s)), none] [] M = some (some (.int (rcV (rc h 60) x)), M) := by
    intro k
    induction k with
    | zero =>
      intro s N hk hN hn
      obtain ⟨N, rfl⟩ : ∃ N', N = N' + 1 := ⟨N - 1, by omega⟩
      rw [b_X9_round_21, if_pos (show (300 : Int32) < nI s by rw [Int32.lt_iff_toInt_lt, nI_toInt (by omega), qv_300]; omega)]
      cases hr : rc h 60 with
      | none => rfl
      | some p =>
        obtain ⟨i1, i2, i3, i4, i5⟩ := rc_some h 60 p hr
        exact absurd (show aw h p.2 ≤ p.1 by omega) (hn p.1 p.2 (by omega) i1 i2 i4)
    | succ k ih =>
      intro s N hk hN hn
      obtain ⟨N, rfl⟩ : ∃ N', N = N' + 1 := ⟨N - 1, by omega⟩
      rw [b_X9_round_21, if_neg (show ¬ (300 : Int32) < nI s by rw [Int32.lt_iff_toInt_lt, nI_toInt (by omega), qv_300]; omega)]
      rcases inner s (by omega) 60 1 N rfl (Nat.le_refl _) (by omega) (fun l a1 a2 _ => by omega) with ⟨L', g1, g2, g3, g4, g5, g6⟩ | ⟨g1, N', g2, g3⟩
      · refine g6.trans ?_
        have gm : s ≤ aw h L' := by
          rcases Nat.lt_or_ge (aw h L') s with q | q
          · exact absurd (Nat.le_refl (aw h L')) (hn (aw h L') L' q g1 g2 (by omega))
          · exact q
        cases hr : rc h 60 with
        | none => exact absurd (show aw h L' + 2 * L' ≤ 300 by omega) (rc_none h 60 hr L' g1 g2)
        | some p =>
          obtain ⟨i1, i2, i3, i4, i5⟩ := rc_some h 60 p hr
          have j1 := i5 L' g1 g2 (by omega)
          have j2 : s ≤ p.1 := by
            rcases Nat.lt_or_ge p.1 s with q | q
            · exact absurd (show aw h p.2 ≤ p.1 by omega) (hn p.1 p.2 q i1 i2 i4)
            · exact q
          have e1 : p.1 = s := by omega
          have e2 : p.2 = L' := by
            rcases Nat.lt_or_ge p.2 L' with q | q
            · exact absurd (show aw h p.2 ≤ s by omega) (g5 p.2 i1 q (by omega))
            · omega
          show _ = some (some (Value.int (if x = 0 then nI p.1 else nI p.2)), M)
          rw [e1, e2]
      · refine g3.trans ?_
        refine ih (s + 1) N' (by omega) (by omega) (fun s' l a0 a1 a2 a3 => ?_)
        rcases Nat.lt_or_ge s' s with q | q
        · exact hn s' l q a1 a2 a3
        · rw [show s' = s by omega] at a3 ⊢
          exact g1 l a1 a2 a3
  exact outer 301 0 q_n1 rfl (q_n1b (by decide)) (fun s' l a0 _ _ _ => by omega)
theorem p_round (x : Int32) : QPi sl sx JA 91 202 [.int x] := by
  intro M hJ
  obtain ⟨n, b, hF, hT, hL, hC, hD, hK, hS, hH⟩ := id hJ
  by_cases w : rg x 1
  rotate_left
  · refine ⟨-1, M, M, ?_, ?_, hJ⟩
    · rw [e_X8_round, b_X8_round_0, k_w1, if_neg w, q_bi_s, if_pos rfl]
    · rw [e_X9_round, b_X9_round_0, k9_w1, if_neg w, q_bi_s, if_pos rfl]
  obtain ⟨M1, a1, a2, a3⟩ := k_dayP (sl := sl) (sx := sx) (d := 992) (x := 300) (t := 9) hF (Or.inl rfl) n300.1
  have f1 := fr_tY (Or.inl rfl) a2
  obtain ⟨M2, b1, b2, b3, _⟩ := k9_goesPlain (sl := sl) (sx := sx) (d := 795) (x := 300) (jF_fr rfl f1 hF) (jL_fr rfl f1 hL) n300.1
  rw [n300.2] at a3 b3
  rw [dyP_kY f1] at b3
  refine ⟨rcV (rc (dyP M n) 60) x, M1, M2, ?_, ?_, ja_kY b2 (ja_kY f1 hJ)⟩
  · rw [e_X8_round, b_X8_round_0, k_w1, if_pos w, q_bi_s, if_neg n10, a1, q_bv_s]
    exact k_roundL a3
  · rw [e_X9_round, b_X9_round_0, k9_w1, if_pos w, q_bi_s, if_neg n10, b1, q_bv_s]
    exact k9_roundL b3
/-! rows of bytes -/
theorem k9_barsN (hs : s < 6) (h : M.1 71 s = 0) : qK sl sx (d + 1) 207 [.ref 48, .int (nI s)] M = some (some (.int (-11)), M) := by
  rw [e_X9_barsOf, b_X9_barsOf_0, if_neg (s6 hs), s6c hs, h, if_pos rfl]
theorem k9_barsS (hs : s < 6) (h : M.1 71 s = 1) : qK sl sx (d + 1) 207 [.ref 48, .int (nI s)] M = some (some (.int (-12)), M) := by
  rw [e_X9_barsOf, b_X9_barsOf_0, if_neg (s6 hs), s6c hs, h, if_neg n10, if_neg (s6n hs), if_neg (by decide)]
theorem k9_barsR {o : Nat} (hs : s < 6) (h : M.1 71 s = 2) (h2 : M.1 72 s = nI o) (ho : o < 5) : qK sl sx (d + 1) 207 [.ref 48, .int (nI s)] M = some (some (.int (if o = 0 then 0 else -12)), M) := by
  rw [e_X9_barsOf, b_X9_barsOf_0, if_neg (s6 hs), s6c hs, h, if_neg (by decide), if_neg (s6n hs), if_pos rfl, if_neg (s6n hs), h2]
  by_cases q : o = 0
  · rw [if_pos (by rw [q]; rfl), if_pos q]
  · rw [if_neg (nI_ne0 (by omega) (by omega)), if_neg q]
/-- what a shelf says where bytes are wanted: the refusal, or the row's length -/
theorem sh_bars {b : Nat} (hs : s < 6) (h : SH b (M.1 (36 + 2 * s)) (M.2 (37 + 2 * s)) (M.1 71 s) (M.1 72 s) (M.1 73 s) (M.1 74 s) (fun i => M.2 75 (60 * s + i))) : (∃ v : Int32, ¬ v = 0 ∧ (∀ d, qK sl sx (d + 1) 49 [.ref (36 + 2 * s)] M = some (some (.int 0), M)) ∧ (∀ d, qK sl sx (d + 2) 50 [.ref (36 + 2 * s)] M = some (some (.int v), M)) ∧ ∀ d, qK sl sx (d + 1) 207 [.ref 48, .int (nI s)] M = some (some (.int v), M)) ∨ (∃ z, z ≤ 60 ∧ M.1 73 s = nI z ∧ M.1 (36 + 2 * s) 1 = nI z ∧ (∀ i, i < 60 → M.2 (37 + 2 * s) i = M.2 75 (60 * s + i) ∧ (M.2 75 (60 * s + i)).toInt32.toInt64 = M.2 75 (60 * s + i)) ∧ (∀ d, qK sl sx (d + 1) 49 [.ref (36 + 2 * s)] M = some (some (.int 1), M)) ∧ ∀ d, qK sl sx (d + 1) 207 [.ref 48, .int (nI s)] M = some (some (.int 0), M)) := by
  have hq := qs_is hs
  rcases h with ⟨h1, h2⟩ | ⟨h1, h2, _⟩ | ⟨h1, o, z, ho, hz, h2, h3, h4, h5, h6⟩
  · refine Or.inl ⟨-11, by decide, fun d => ?_, fun d => ?_, fun d => k9_barsN hs h1⟩
    · rw [k_holdsBytes hq, h2, if_neg (by decide)]
    · rw [k_refusal hq, h2, if_pos rfl]
  · refine Or.inl ⟨-12, by decide, fun d => ?_, fun d => ?_, fun d => k9_barsS hs h1⟩
    · rw [k_holdsBytes hq, h2, if_neg (by decide)]
    · rw [k_refusal hq, h2, if_neg (by decide)]
  · by_cases q : o = 0
    · subst q
      refine Or.inr ⟨z, hz, h4, h5, fun i hi => ⟨(h6 i hi).1, (h6 i hi).2 rfl⟩, fun d => ?_, fun d => ?_⟩
      · rw [k_holdsBytes hq, h3, if_pos (show nI 0 = 0 from rfl)]
      · rw [k9_barsR hs h1 h2 ho, if_pos rfl]
    · have ne1 : ¬ nI o = -1 := fun e => by
        have := nI_pos (n := o) (by omega)
        rw [e] at this
        exact this (by decide)
      refine Or.inl ⟨-12, by decide, fun d => ?_, fun d => ?_, fun d => ?_⟩
      · rw [k_holdsBytes hq, h3, if_neg (nI_ne0 (by omega) (by omega))]
      · rw [k_refusal hq, h3, if_neg ne1]
      · rw [k9_barsR hs h1 h2 ho, if_neg q]
theorem by_eq {v : Int32} {c : Int64} (h : c.toInt32.toInt64 = c) : lg_cmp v.toInt64 c = 0 ↔ v = c.toInt32 := by
  rw [lg_cmp_eq]
  constructor
  · intro e
    rw [← e, Int32.toInt32_toInt64]
  · intro e
    rw [e, h]
def due (M : QM) (s z : Nat) : Nat → Int32 := fun m => if m < z then (M.2 75 (60 * s + m)).toInt32 else 0
theorem k_lateL {h : Nat → Int32} {m z : Nat} {g : Nat → Int32} (hs : s < 6) (hT : TW M 9 m h) (hz : M.1 (36 + 2 * s) 1 = nI z) (h6 : z ≤ 60) (hc : ∀ v i, lg_cmp (v : Int32).toInt64 (if i < z then M.2 (37 + 2 * s) i else 0) = 0 ↔ v = g i) : qF sl sx (d + 2) 94 q_n1 69 [some (.ref 4), none, some (.int (nI m)), some (.int x), some (.ref (36 + 2 * s)), some (.int 0), some (.int (-2)), some (.int 0)] [] M = some (some (.int (if x = 0 then (ltS h g (m + 1)).1 else (ltS h g (m + 1)).2)), M) := by
  have hm := hT.2.2.1
  have hq := qs_is hs
  refine q_lc (fun k i (a : Int32 × Int32) => qF sl sx (d + 2) 94 k 69 [some (.ref 4), none, some (.int (nI m)), some (.int x), some (.ref (36 + 2 * s)), some (.int a.1), some (.int a.2), some (.int (nI i))] [] M) (m + 1) (fun i => ltS h g i) _ (fun k i hi => ?_) (fun k => ?_) 0 q_n1 (Nat.zero_le _) (q_n1b (by omega))
  · have ce : (if 0 ≤ (nI i).toInt ∧ (nI i).toInt < (M.1 (36 + 2 * s) 1).toInt then M.2 (36 + 2 * s + 1) (nI i).toInt.toNat else 0) = if i < z then M.2 (37 + 2 * s) i else 0 := by
      rw [hz, nI_toInt (by omega), nI_toInt (by omega), Int.toNat_natCast, show 36 + 2 * s + 1 = 37 + 2 * s by omega]
      by_cases q : i < z
      · rw [if_pos q, if_pos (by omega)]
      · rw [if_neg q, if_neg (by omega)]
    rw [b_X8_late_69, if_neg (nI_nlt (by omega) (by omega)), k_atN (Or.inl rfl) hT (by omega), q_bi_s, qS_rc hq, k_cell hq (by rw [hz, nI_toInt (by omega)]; omega), ce, q_bl_s, nI_1]
    rw [ltS]
    by_cases c : h i = g i
    · rw [if_pos ((hc _ _).mpr c), if_pos c]
    · rw [if_neg (fun q => c ((hc _ _).mp q)), if_neg c]
      dsimp only
      by_cases w : (ltS h g i).2 = -2
      · rw [if_pos w, if_pos w]
      · rw [if_neg w, if_neg w]
  · rw [b_X8_late_69, if_pos (nI_lt (by omega) (by omega))]
    split <;> rfl
theorem k9_lateL {h : Nat → Int32} {m z : Nat} (hs : s < 6) (hm : m ≤ 300) (hT : ∀ j, j ≤ m → M.1 61 j = h j) (hz : M.1 73 s = nI z) (h6 : z ≤ 60) : qF sl sx (d + 1) 208 q_n1 57 [some (.ref 48), some (.int (nI s)), some (.int (nI m)), some (.int x), some (.int 0), some (.int (-2)), some (.int 0), none] [] M = some (some (.int (if x = 0 then (ltS h (due M s z) (m + 1)).1 else (ltS h (due M s z) (m + 1)).2)), M) := by
  refine q_lc (fun k i (a : Int32 × Int32) => qF sl sx (d + 1) 208 k 57 [some (.ref 48), some (.int (nI s)), some (.int (nI m)), some (.int x), some (.int a.1), some (.int a.2), some (.int (nI i)), none] [] M) (m + 1) (fun i => ltS h (due M s z) i) _ (fun k i hi => ?_) (fun k => ?_) 0 q_n1 (Nat.zero_le _) (q_n1b (by omega))
  · have q1 : ¬ (nI i < 0 ∨ 301 ≤ (nI i).toNatClampNeg) := nI_in (by omega) (by decide)
    have tail : ∀ u : Int32, u = due M s z i → (if u = h i then (qF sl sx (d + 1) 208 k 57 [some (.ref 48), some (.int (nI s)), some (.int (nI m)), some (.int x), some (.int (ltS h (due M s z) i).1), some (.int (ltS h (due M s z) i).2), some (.int (nI (i + 1))), none] [] M) else (if (ltS h (due M s z) i).2 = (-2) then (qF sl sx (d + 1) 208 k 57 [some (.ref 48), some (.int (nI s)), some (.int (nI m)), some (.int x), some (.int ((ltS h (due M s z) i).1 + 1)), some (.int (nI i)), some (.int (nI (i + 1))), none] [] M) else (qF sl sx (d + 1) 208 k 57 [some (.ref 48), some (.int (nI s)), some (.int (nI m)), some (.int x), some (.int ((ltS h (due M s z) i).1 + 1)), some (.int (ltS h (due M s z) i).2), some (.int (nI (i + 1))), none] [] M))) = qF sl sx (d + 1) 208 k 57 [some (.ref 48), some (.int (nI s)), some (.int (nI m)), some (.int x), some (.int (ltS h (due M s z) (i + 1)).1), some (.int (ltS h (due M s z) (i + 1)).2), some (.int (nI (i + 1))), none] [] M := by
      intro u hu
      rw [hu]
      rw [show ltS h (due M s z) (i + 1) = if h i = due M s z i then ltS h (due M s z) i else ((ltS h (due M s z) i).1 + 1, if (ltS h (due M s z) i).2 = -2 then nI i else (ltS h (due M s z) i).2) from rfl]
      by_cases c : h i = due M s z i
      · rw [if_pos c.symm, if_pos c]
      · rw [if_neg (fun q => c q.symm), if_neg c]
        dsimp only
        by_cases w : (ltS h (due M s z) i).2 = -2
        · rw [if_pos w, if_pos w]
        · rw [if_neg w, if_neg w]
    rw [b_X9_late_57, if_neg (nI_nlt (by omega) (by omega)), if_neg (s6 hs), s6c hs, hz, if_neg q1, nI_clamp (by omega), hT i (by omega), nI_1]
    by_cases c : i < z
    · rw [if_neg (nI_ge c (by omega)), k9_intAt hs (by omega), q_bi_s, if_neg (show ¬ (nI i < 0 ∨ 301 ≤ i) by rw [nI_clamp (by omega)] at q1; exact q1), hT i (by omega)]
      exact tail _ (by unfold due; rw [if_pos c])
    · rw [if_pos (nI_le (by omega) (by omega))]
      exact tail _ (by unfold due; rw [if_neg c])
  · rw [b_X9_late_57, if_pos (nI_lt (by omega) (by omega))]
    split <;> rfl
theorem sh_fr {M' : QM} {b : Nat} {l : List Nat} (h : kH.all (fun x => !(l.elem x)) = true) (f : Fr l M M') (j : JH b M) : JH b M' := jH_fr h f j
theorem p_late (x y z : Int32) : QPi sl sx JA 94 208 [.int x, .int y, .int z] := by
  intro M hJ
  obtain ⟨n, b, hF, hT, hL, hC, hD, hK, hS, hH⟩ := id hJ
  rcases in6 (x := x) with hx | hx
  rotate_left
  · refine ⟨-1, M, M, ?_, ?_, hJ⟩
    · rw [e_X8_late, b_X8_late_0, k_shelfN hx, q_br_n]
    · rw [e_X9_late, b_X9_late_0, k9_isShelfN hx, q_bi_s, if_pos rfl]
  have ex : x = nI x.toInt.toNat := q_ofN hx.1
  have hs : x.toInt.toNat < 6 := by omega
  generalize x.toInt.toNat = s at *
  subst ex
  have hq := qs_is hs
  by_cases r : rg y 300
  rotate_left
  · refine ⟨-1, M, M, ?_, ?_, hJ⟩
    · rw [e_X8_late, b_X8_late_0, k_shelfY hs, q_br_s, k_w300, if_neg r, q_bi_s, if_pos rfl]
    · rw [e_X9_late, b_X9_late_0, k9_isShelfY hs, q_bi_s, if_neg n10, k9_isMinute, if_neg r, q_bi_s, if_pos rfl]
  by_cases w : rg z 1
  rotate_left
  · refine ⟨-1, M, M, ?_, ?_, hJ⟩
    · rw [e_X8_late, b_X8_late_0, k_shelfY hs, q_br_s, k_w300, if_pos r, q_bi_s, if_neg n10, k_w1, if_neg w, q_bi_s, if_pos rfl]
    · rw [e_X9_late, b_X9_late_0, k9_isShelfY hs, q_bi_s, if_neg n10, k9_isMinute, if_pos r, q_bi_s, if_neg n10, k9_w1, if_neg w, q_bi_s, if_pos rfl]
  rcases sh_bars (sl := sl) (sx := sx) hs (hH s hs) with ⟨v, v0, g1, g2, g3⟩ | ⟨zz, h6, z1, z2, g0, g1, g3⟩
  · refine ⟨v, M, M, ?_, ?_, hJ⟩
    · rw [e_X8_late, b_X8_late_0, k_shelfY hs, q_br_s, k_w300, if_pos r, q_bi_s, if_neg n10, k_w1, if_pos w, q_bi_s, if_neg n10, qS_rc hq, g1, q_bi_s, if_pos rfl, qS_rc hq, g2, q_bi_s]
    · rw [e_X9_late, b_X9_late_0, k9_isShelfY hs, q_bi_s, if_neg n10, k9_isMinute, if_pos r, q_bi_s, if_neg n10, k9_w1, if_pos w, q_bi_s, if_neg n10, g3, q_bi_s, if_neg v0, g3, q_bi_s]
  obtain ⟨m, rfl, hm⟩ := rgN300 r
  obtain ⟨i1, i2⟩ := nI300 hm
  obtain ⟨M1, a1, a2, a3⟩ := k_dayP (sl := sl) (sx := sx) (d := 992) (x := nI m) (t := 9) hF (Or.inl rfl) i1
  have f1 := fr_tY (Or.inl rfl) a2
  have hF1 := jF_fr rfl f1 hF
  obtain ⟨M2, b1, b2, b3, _⟩ := k9_goesPlain (sl := sl) (sx := sx) (d := 795) (x := nI m) hF1 (jL_fr rfl f1 hL) i1
  rw [i2] at a3 b3
  rw [dyP_kY f1] at b3
  have g31 : qK sl sx 999 207 [.ref 48, .int (nI s)] M1 = some (some (.int 0), M1) := by
    rcases sh_bars (sl := sl) (sx := sx) hs ((jH_fr rfl f1 hH : JH b M1) s hs) with ⟨v, v0, k1, k2, k3⟩ | ⟨_, _, _, _, _, _, k3⟩
    · have e49 : qK sl sx 999 49 [.ref (36 + 2 * s)] M1 = some (some (.int 1), M1) := by
        have e := g1 998
        rw [k_holdsBytes hq] at e ⊢
        have : M1.1 (36 + 2 * s) 0 = M.1 (36 + 2 * s) 0 := by
          have : s = 0 ∨ s = 1 ∨ s = 2 ∨ s = 3 ∨ s = 4 ∨ s = 5 := by omega
          rcases this with rfl | rfl | rfl | rfl | rfl | rfl <;> exact f1.1 _ 0 rfl
        rw [this]
        by_cases q : M.1 (36 + 2 * s) 0 = 0
        · rw [if_pos q]
        · rw [if_neg q] at e
          exact absurd e (by simp)
      have := k1 998
      rw [e49] at this
      exact absurd this (by simp)
    · exact k3 998
  have m1c : ∀ i, M1.2 (37 + 2 * s) i = M.2 (37 + 2 * s) i := fun i => by
    have : s = 0 ∨ s = 1 ∨ s = 2 ∨ s = 3 ∨ s = 4 ∨ s = 5 := by omega
    rcases this with rfl | rfl | rfl | rfl | rfl | rfl <;> exact f1.2 _ i rfl
  have m1z : M1.1 (36 + 2 * s) 1 = nI zz := by
    rw [← z2]
    have : s = 0 ∨ s = 1 ∨ s = 2 ∨ s = 3 ∨ s = 4 ∨ s = 5 := by omega
    rcases this with rfl | rfl | rfl | rfl | rfl | rfl <;> exact f1.1 _ 1 rfl
  have hc : ∀ (v : Int32) i, lg_cmp v.toInt64 (if i < zz then M1.2 (37 + 2 * s) i else 0) = 0 ↔ v = due M s zz i := by
    intro v i
    unfold due
    by_cases q : i < zz
    · rw [if_pos q, if_pos q, m1c, (g0 i (by omega)).1]
      exact by_eq (g0 i (by omega)).2
    · rw [if_neg q, if_neg q]
      have e := by_eq (v := v) (c := 0) (by decide)
      rw [show (0 : Int64).toInt32 = 0 by decide] at e
      exact e
  have ed : due M2 s zz = due M s zz := by
    funext i
    unfold due
    rw [b2.2 75 _ rfl, f1.2 75 _ rfl]
  have r9 := k9_lateL (sl := sl) (sx := sx) (d := 998) (x := z) (z := zz) hs hm b3 ((b2.1 73 s rfl).trans ((f1.1 73 s rfl).trans z1)) h6
  rw [ed] at r9
  refine ⟨if z = 0 then (ltS (dyP M n) (due M s zz) (m + 1)).1 else (ltS (dyP M n) (due M s zz) (m + 1)).2, M1, M2, ?_, ?_, ja_kY b2 (ja_kY f1 hJ)⟩
  · rw [e_X8_late, b_X8_late_0, k_shelfY hs, q_br_s, k_w300, if_pos r, q_bi_s, if_neg n10, k_w1, if_pos w, q_bi_s, if_neg n10, qS_rc hq, g1, q_bi_s, if_neg n10, a1, q_bv_s]
    exact k_lateL hs a3 m1z h6 hc
  · rw [e_X9_late, b_X9_late_0, k9_isShelfY hs, q_bi_s, if_neg n10, k9_isMinute, if_pos r, q_bi_s, if_neg n10, k9_w1, if_pos w, q_bi_s, if_neg n10, g31, q_bi_s, if_pos rfl, b1, q_bv_s]
    exact r9
end ROUND
