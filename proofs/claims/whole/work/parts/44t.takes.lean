/-! THE REFERENCE TAKES ITS TEXT (wip/whole/f) -/
def SP (M : QM) (p : Nat) : QM := (q_up M.1 48 22 (nI p), M.2)
theorem sp_p (M : QM) (p : Nat) : (SP M p).1 48 22 = nI p := by
  show q_up M.1 48 22 (nI p) 48 22 = nI p
  exact q_up_s _ _ _ _
theorem sp_k (M : QM) (p : Nat) {k : Nat} (h : k ≠ 22) : (SP M p).1 48 k = M.1 48 k := by
  show q_up M.1 48 22 (nI p) 48 k = _
  exact q_up_k _ _ _ _ h
theorem sp_a (M : QM) (p : Nat) {a : Nat} (h : a ≠ 48) (k : Nat) : (SP M p).1 a k = M.1 a k := by
  show q_up M.1 48 22 (nI p) a k = _
  exact q_up_a _ _ _ _ h
theorem q_up_t {α : Type} (h : Nat → Nat → α) (a k : Nat) (v w : α) : q_up (q_up h a k v) a k w = q_up h a k w := by
  funext a' k'
  simp only [q_up]
  split <;> rfl
theorem sp_i (M : QM) (p p' : Nat) : (q_up (SP M p).1 48 22 (nI p'), (SP M p).2) = SP M p' := by
  show (q_up (q_up M.1 48 22 (nI p)) 48 22 (nI p'), M.2) = (q_up M.1 48 22 (nI p'), M.2)
  rw [q_up_t]
theorem sp_fr (M : QM) (p : Nat) : Fr [4822] M (SP M p) := fr_up rfl fr_rf
def t_ev (M : QM) (q : PR) : Int32 := q.2.2.2 (M.1 60 97) (M.1 60 98) (M.1 60 99) (M.1 60 114) (M.1 60 103) (M.1 60 109)
section TAKES
variable {sl : Nat} {sx : Nat → Int32} {d n p : Nat} {M : QM} {x : Int32}
theorem k9_isDigit : qK sl sx (d + 1) 170 [.ref 48, .int x] M = some (some (.int (if t_dig x then 1 else 0)), M) := by
  rw [e_X9_isDigit, b_X9_isDigit_0]
  by_cases h1 : x < 48
  · rw [if_pos h1, if_neg (fun h => h.1 h1)]
  · rw [if_neg h1]
    by_cases h2 : 57 < x
    · rw [if_pos h2, if_neg (fun h => h.2 h2)]
    · rw [if_neg h2, if_pos ⟨h1, h2⟩]
theorem k9_one : qK sl sx (d + 1) 182 [.ref 48, .int x] M = some (some (.int (if x = 0 then 0 else 1)), M) := by
  rw [e_X9_one, b_X9_one_0]
  split <;> rfl
theorem k9_seen (hn : M.1 48 5 = nI n) (h : n ≤ 120) (hp : p ≤ n) : qK sl sx (d + 1) 180 [.ref 48] (SP M p) = some (some (.int (t_at (M.1 55) n p)), SP M p) := by
  rw [e_X9_seen, b_X9_seen_0, sp_p, sp_k _ _ (by decide), hn, sp_a _ _ (by decide)]
  unfold t_at
  by_cases c : p < n
  · rw [if_neg (nI_ge c (by omega)), if_neg (nI_in (show p < 120 by omega) (by decide)), if_pos c, nI_clamp (by omega)]
  · rw [if_pos (nI_le (by omega) (by omega)), if_neg c]
theorem k9_isSeenY (hn : M.1 48 5 = nI n) (h : n ≤ 120) (hp : p ≤ n) (hc : t_at (M.1 55) n p = x) : qK sl sx (d + 2) 181 [.ref 48, .int x] (SP M p) = some (some (.int 1), SP M (p + 1)) := by
  rw [e_X9_isSeen, b_X9_isSeen_0, k9_seen hn h hp, q_bi_s, if_pos hc, sp_p, nI_1, sp_i]
theorem k9_isSeenN (hn : M.1 48 5 = nI n) (h : n ≤ 120) (hp : p ≤ n) (hc : ¬ t_at (M.1 55) n p = x) : qK sl sx (d + 2) 181 [.ref 48, .int x] (SP M p) = some (some (.int 0), SP M p) := by
  rw [e_X9_isSeen, b_X9_isSeen_0, k9_seen hn h hp, q_bi_s, if_neg hc]
theorem t_lp_f {ch : Nat → Int32} {nx : Nat → PR} {l : Nat} : ∀ (f : Nat) (r : PR), r.1 ≠ true → t_lp ch nx l f r = r := by
  intro f r h
  cases f with
  | zero => rfl
  | succ f => rw [t_lp, if_neg (fun c => h c.1)]
theorem t_lp_nd {ch : Nat → Int32} {nx : Nat → PR} {l f : Nat} {r : PR} (h1 : (t_lp ch nx l f r).1 = true) (h2 : ¬ t_dig (ch (t_lp ch nx l f r).2.1)) : r.1 = true ∧ ¬ t_dig (ch r.2.1) := by
  cases f with
  | zero => exact ⟨h1, h2⟩
  | succ f =>
    rw [t_lp] at h1 h2
    by_cases c : r.1 = true ∧ t_bel l (ch r.2.1) = true
    · exact ⟨c.1, (t_bel_ne c.2).2.2.2.2⟩
    · rw [if_neg c] at h1 h2
      exact ⟨h1, h2⟩
/-- what a method that takes does with a thing that is right -/
def TK (sl : Nat) (sx : Nat → Int32) (D j n : Nat) (M : QM) (nx : Nat → PR) : Prop := ∀ p, p ≤ n → (nx p).1 = true → ¬ t_dig (t_at (M.1 55) n (nx p).2.1) → qK sl sx D j [.ref 48] (SP M p) = some (some (.int (t_ev M (nx p))), SP M (nx p).2.1)
theorem tk_loop {l : Nat} {nx : Nat → PR} {F : Nat → Int32 → QM → Option (Option Value × QM)} (hB : ∀ p, p ≤ n → t_B n p (nx p)) (hn : M.1 48 5 = nI n) (h : n ≤ 120)
    (st : ∀ N v p, p < n → t_bel l (t_at (M.1 55) n p) = true → (nx (p + 1)).1 = true → ¬ t_dig (t_at (M.1 55) n (nx (p + 1)).2.1) → F (N + 1) v (SP M p) = F N (l_join (t_at (M.1 55) n p) v (t_ev M (nx (p + 1)))) (SP M (nx (p + 1)).2.1))
    (fin : ∀ N v p, p ≤ n → ¬ t_bel l (t_at (M.1 55) n p) = true → F (N + 1) v (SP M p) = some (some (.int v), SP M p)) {q : Nat} :
    ∀ (f : Nat) (r : PR) (N : Nat), t_B n q r → r.1 = true → n < f + r.2.1 → f < N → (t_lp (t_at (M.1 55) n) nx l f r).1 = true → ¬ t_dig (t_at (M.1 55) n (t_lp (t_at (M.1 55) n) nx l f r).2.1) → F N (t_ev M r) (SP M r.2.1) = some (some (.int (t_ev M (t_lp (t_at (M.1 55) n) nx l f r))), SP M (t_lp (t_at (M.1 55) n) nx l f r).2.1) := by
  intro f
  induction f with
  | zero =>
    intro r N hr _ hl
    have := hr.2.1
    omega
  | succ f ih =>
    intro r N hr hr1 hl hN g1 g2
    obtain ⟨N, rfl⟩ : ∃ N', N = N' + 1 := ⟨N - 1, by omega⟩
    rw [t_lp] at g1 g2 ⊢
    by_cases c : r.1 = true ∧ t_bel l (t_at (M.1 55) n r.2.1) = true
    · rw [if_pos c] at g1 g2 ⊢
      have lt := t_at_lt (t_bel_ne c.2).1
      have hB' : t_B n q (t_lp (t_at (M.1 55) n) nx l 1 r) := t_lp_B hB 1 r hr
      rw [t_lp, if_pos c] at hB'
      have nd := t_lp_nd g1 g2
      have hb := (hB (r.2.1 + 1) lt).1
      rw [st N (t_ev M r) r.2.1 lt c.2 nd.1 nd.2]
      exact ih _ N hB' nd.1 (by show n < f + (nx (r.2.1 + 1)).2.1; omega) (by omega) g1 g2
    · rw [if_neg c] at g1 g2 ⊢
      exact fin N _ _ hr.2.1 (fun q => c ⟨hr1, q⟩)
theorem tk_E {nx : Nat → PR} (hB : ∀ p, p ≤ n → t_B n p (nx p)) (hn : M.1 48 5 = nI n) (h : n ≤ 120) (hT : TK sl sx (d + 2) 187 n M nx) : TK sl sx (d + 3) 188 n M (fun p => t_lp (t_at (M.1 55) n) nx 0 120 (nx p)) := by
  intro p hp g1 g2
  have nd := t_lp_nd g1 g2
  rw [e_X9_takesE, b_X9_takesE_0, hT p hp nd.1 nd.2, q_bi_s]
  refine tk_loop (F := fun N v M' => qF sl sx (d + 2) 188 N 5 [some (.ref 48), some (.int v), none] [] M') hB hn h (fun N v p hp c k1 k2 => ?_) (fun N v p hp c => ?_) 120 (nx p) q_n1 (hB p hp) nd.1 (by have a := (hB p hp).2.2.2.1 nd.1; have b := (hB p hp).2.2.1; omega) (q_n1b (by decide)) g1 g2
  · have c' : t_at (M.1 55) n p = 124 := by simpa [t_bel] using c
    rw [b_X9_takesE_5, k9_isSeenY hn h (Nat.le_of_lt hp) c', q_bi_s, if_neg (by decide), hT (p + 1) hp k1 k2, q_bi_s, c']
    generalize t_ev M (nx (p + 1)) = w
    by_cases v0 : v = 0
    · by_cases w0 : w = 0
      · simp only [if_pos v0, if_pos w0, k9_one, q_bi_s]
        subst v0; subst w0; rfl
      · simp only [if_pos v0, if_neg w0, k9_one, q_bi_s]
        simp (config := {decide := true}) only [l_join, if_pos v0, if_neg w0, if_true, if_false]
    · simp only [if_neg v0, k9_one, q_bi_s]
      simp (config := {decide := true}) only [l_join, if_neg v0, if_true, if_false]
  · have c' : ¬ t_at (M.1 55) n p = 124 := fun e => c (by rw [e]; rfl)
    rw [b_X9_takesE_5, k9_isSeenN hn h hp c', q_bi_s, if_pos rfl]
theorem tk_A {nx : Nat → PR} (hB : ∀ p, p ≤ n → t_B n p (nx p)) (hn : M.1 48 5 = nI n) (h : n ≤ 120) (hT : TK sl sx (d + 2) 186 n M nx) : TK sl sx (d + 3) 187 n M (fun p => t_lp (t_at (M.1 55) n) nx 1 120 (nx p)) := by
  intro p hp g1 g2
  have nd := t_lp_nd g1 g2
  rw [e_X9_takesA, b_X9_takesA_0, hT p hp nd.1 nd.2, q_bi_s]
  refine tk_loop (F := fun N v M' => qF sl sx (d + 2) 187 N 5 [some (.ref 48), some (.int v), none] [] M') hB hn h (fun N v p hp c k1 k2 => ?_) (fun N v p hp c => ?_) 120 (nx p) q_n1 (hB p hp) nd.1 (by have a := (hB p hp).2.2.2.1 nd.1; have b := (hB p hp).2.2.1; omega) (q_n1b (by decide)) g1 g2
  · have c' : t_at (M.1 55) n p = 38 := by simpa [t_bel] using c
    rw [b_X9_takesA_5, k9_isSeenY hn h (Nat.le_of_lt hp) c', q_bi_s, if_neg (by decide), hT (p + 1) hp k1 k2, q_bi_s, c']
    generalize t_ev M (nx (p + 1)) = w
    by_cases v0 : v = 0
    · simp only [if_pos v0, k9_one, q_bi_s]
      simp (config := {decide := true}) only [l_join, if_pos v0, if_true, if_false]
    · by_cases w0 : w = 0
      · simp only [if_neg v0, if_pos w0, k9_one, q_bi_s]
        simp (config := {decide := true}) only [l_join, if_neg v0, if_pos w0, if_true, if_false]
      · simp only [if_neg v0, if_neg w0, k9_one, q_bi_s]
        simp (config := {decide := true}) only [l_join, if_neg v0, if_neg w0, if_true, if_false]
  · have c' : ¬ t_at (M.1 55) n p = 38 := fun e => c (by rw [e]; rfl)
    rw [b_X9_takesA_5, k9_isSeenN hn h hp c', q_bi_s, if_pos rfl]
theorem tk_S {nx : Nat → PR} (hB : ∀ p, p ≤ n → t_B n p (nx p)) (hn : M.1 48 5 = nI n) (h : n ≤ 120) (hT : TK sl sx (d + 2) 184 n M nx) : TK sl sx (d + 3) 185 n M (fun p => t_lp (t_at (M.1 55) n) nx 3 120 (nx p)) := by
  intro p hp g1 g2
  have nd := t_lp_nd g1 g2
  rw [e_X9_takesS, b_X9_takesS_0, hT p hp nd.1 nd.2, q_bi_s]
  refine tk_loop (F := fun N v M' => qF sl sx (d + 2) 185 N 5 [some (.ref 48), some (.int v)] [] M') hB hn h (fun N v p hp c k1 k2 => ?_) (fun N v p hp c => ?_) 120 (nx p) q_n1 (hB p hp) nd.1 (by have a := (hB p hp).2.2.2.1 nd.1; have b := (hB p hp).2.2.1; omega) (q_n1b (by decide)) g1 g2
  · have c' : t_at (M.1 55) n p = 43 ∨ t_at (M.1 55) n p = 45 := by simpa [t_bel] using c
    rcases c' with c' | c'
    · rw [b_X9_takesS_5, k9_isSeenY hn h (Nat.le_of_lt hp) c', q_bi_s, if_neg (by decide), hT (p + 1) hp k1 k2, q_bi_s, c']
      simp (config := {decide := true}) only [l_join, if_true, if_false]
    · have nc : ¬ t_at (M.1 55) n p = 43 := by rw [c']; decide
      rw [b_X9_takesS_5, k9_isSeenN hn h (Nat.le_of_lt hp) nc, q_bi_s, if_pos rfl, k9_isSeenY hn h (Nat.le_of_lt hp) c', q_bi_s, if_neg (by decide), hT (p + 1) hp k1 k2, q_bi_s, c']
      simp (config := {decide := true}) only [l_join, if_true, if_false]
  · have c1 : ¬ t_at (M.1 55) n p = 43 := fun e => c (by rw [e]; rfl)
    have c2 : ¬ t_at (M.1 55) n p = 45 := fun e => c (by rw [e]; rfl)
    rw [b_X9_takesS_5, k9_isSeenN hn h hp c1, q_bi_s, if_pos rfl, k9_isSeenN hn h hp c2, q_bi_s, if_pos rfl]
theorem tk_P {nx : Nat → PR} (hB : ∀ p, p ≤ n → t_B n p (nx p)) (hn : M.1 48 5 = nI n) (h : n ≤ 120) (hT : TK sl sx (d + 2) 183 n M nx) : TK sl sx (d + 3) 184 n M (fun p => t_lp (t_at (M.1 55) n) nx 4 120 (nx p)) := by
  intro p hp g1 g2
  have nd := t_lp_nd g1 g2
  rw [e_X9_takesP, b_X9_takesP_0, hT p hp nd.1 nd.2, q_bi_s]
  refine tk_loop (F := fun N v M' => qF sl sx (d + 2) 184 N 5 [some (.ref 48), some (.int v), none] [] M') hB hn h (fun N v p hp c k1 k2 => ?_) (fun N v p hp c => ?_) 120 (nx p) q_n1 (hB p hp) nd.1 (by have a := (hB p hp).2.2.2.1 nd.1; have b := (hB p hp).2.2.1; omega) (q_n1b (by decide)) g1 g2
  · have c' : t_at (M.1 55) n p = 42 ∨ t_at (M.1 55) n p = 47 ∨ t_at (M.1 55) n p = 37 := by simpa [t_bel, or_assoc] using c
    rcases c' with c' | c' | c'
    · rw [b_X9_takesP_5, k9_isSeenY hn h (Nat.le_of_lt hp) c', q_bi_s, if_neg (by decide), hT (p + 1) hp k1 k2, q_bi_s, c']
      simp (config := {decide := true}) only [l_join, if_true, if_false]
    · have nc : ¬ t_at (M.1 55) n p = 42 := by rw [c']; decide
      rw [b_X9_takesP_5, k9_isSeenN hn h (Nat.le_of_lt hp) nc, q_bi_s, if_pos rfl, k9_isSeenY hn h (Nat.le_of_lt hp) c', q_bi_s, if_neg (by decide), hT (p + 1) hp k1 k2, q_bi_s, c']
      simp (config := {decide := true}) only [l_join, if_true, if_false]
      split <;> rfl
    · have nc : ¬ t_at (M.1 55) n p = 42 := by rw [c']; decide
      have nc2 : ¬ t_at (M.1 55) n p = 47 := by rw [c']; decide
      rw [b_X9_takesP_5, k9_isSeenN hn h (Nat.le_of_lt hp) nc, q_bi_s, if_pos rfl, k9_isSeenN hn h (Nat.le_of_lt hp) nc2, q_bi_s, if_pos rfl, k9_isSeenY hn h (Nat.le_of_lt hp) c', q_bi_s, if_neg (by decide), hT (p + 1) hp k1 k2, q_bi_s, c']
      simp (config := {decide := true}) only [l_join, if_true, if_false]
      split <;> rfl
  · have c1 : ¬ t_at (M.1 55) n p = 42 := fun e => c (by rw [e]; rfl)
    have c2 : ¬ t_at (M.1 55) n p = 47 := fun e => c (by rw [e]; rfl)
    have c3 : ¬ t_at (M.1 55) n p = 37 := fun e => c (by rw [e]; rfl)
    rw [b_X9_takesP_5, k9_isSeenN hn h hp c1, q_bi_s, if_pos rfl, k9_isSeenN hn h hp c2, q_bi_s, if_pos rfl, k9_isSeenN hn h hp c3, q_bi_s, if_pos rfl]
theorem tk_B {nx : Nat → PR} (hB : ∀ p, p ≤ n → t_B n p (nx p)) (hn : M.1 48 5 = nI n) (h : n ≤ 120) (hT : TK sl sx (d + 2) 185 n M nx) : TK sl sx (d + 3) 186 n M (fun p => t_lp (t_at (M.1 55) n) nx 2 1 (nx p)) := by
  intro p hp g1 g2
  have nd := t_lp_nd g1 g2
  have hb := (hB p hp).2.1
  rw [e_X9_takesB, b_X9_takesB_0, hT p hp nd.1 nd.2, q_bi_s]
  simp only [t_lp] at g1 g2 ⊢
  generalize nx p = r at *
  by_cases c : r.1 = true ∧ t_bel 2 (t_at (M.1 55) n r.2.1) = true
  · rw [if_pos c] at g1 g2 ⊢
    have lt := t_at_lt (t_bel_ne c.2).1
    have c' : t_at (M.1 55) n r.2.1 = 60 ∨ t_at (M.1 55) n r.2.1 = 61 ∨ t_at (M.1 55) n r.2.1 = 62 := by simpa [t_bel, or_assoc] using c.2
    have ev : t_ev M (t_bn (t_at (M.1 55) n r.2.1) r (nx (r.2.1 + 1))) = l_join (t_at (M.1 55) n r.2.1) (t_ev M r) (t_ev M (nx (r.2.1 + 1))) := rfl
    have ep : (t_bn (t_at (M.1 55) n r.2.1) r (nx (r.2.1 + 1))).2.1 = (nx (r.2.1 + 1)).2.1 := rfl
    have hT' := hT (r.2.1 + 1) lt g1 g2
    rw [ev, ep]
    generalize nx (r.2.1 + 1) = u at *
    generalize t_ev M u = w at *
    generalize t_ev M r = v at *
    rcases c' with c' | c' | c'
    · rw [k9_isSeenY hn h hb c', q_bi_s, if_neg (by decide), hT', q_bi_s, c']
      simp (config := {decide := true}) only [l_join, if_true, if_false, Int32.lt_iff_toInt_lt, Int32.le_iff_toInt_le, k9_one, q_bi_s]
      by_cases q : v.toInt < w.toInt
      · rw [if_neg (by omega), if_pos q]
      · rw [if_pos (by omega), if_neg q]
    · have nc : ¬ t_at (M.1 55) n r.2.1 = 60 := by rw [c']; decide
      rw [k9_isSeenN hn h hb nc, q_bi_s, if_pos rfl, k9_isSeenY hn h hb c', q_bi_s, if_neg (by decide), hT', q_bi_s, c']
      simp (config := {decide := true}) only [l_join, if_true, if_false, k9_one, q_bi_s]
      split <;> rfl
    · have nc : ¬ t_at (M.1 55) n r.2.1 = 60 := by rw [c']; decide
      have nc2 : ¬ t_at (M.1 55) n r.2.1 = 61 := by rw [c']; decide
      rw [k9_isSeenN hn h hb nc, q_bi_s, if_pos rfl, k9_isSeenN hn h hb nc2, q_bi_s, if_pos rfl, k9_isSeenY hn h hb c', q_bi_s, if_neg (by decide), hT', q_bi_s, c']
      simp (config := {decide := true}) only [l_join, if_true, if_false, Int32.lt_iff_toInt_lt, Int32.le_iff_toInt_le, k9_one, q_bi_s]
      by_cases q : w.toInt < v.toInt
      · rw [if_neg (by omega), if_pos q]
      · rw [if_pos (by omega), if_neg q]
  · rw [if_neg c] at g1 g2 ⊢
    have c1 : ¬ t_at (M.1 55) n r.2.1 = 60 := fun e => c ⟨nd.1, by rw [e]; rfl⟩
    have c2 : ¬ t_at (M.1 55) n r.2.1 = 61 := fun e => c ⟨nd.1, by rw [e]; rfl⟩
    have c3 : ¬ t_at (M.1 55) n r.2.1 = 62 := fun e => c ⟨nd.1, by rw [e]; rfl⟩
    rw [k9_isSeenN hn h hb c1, q_bi_s, if_pos rfl, k9_isSeenN hn h hb c2, q_bi_s, if_pos rfl, k9_isSeenN hn h hb c3, q_bi_s, if_pos rfl]
/-- the digits: what is left behind them is none -/
theorem tk_num (hn : M.1 48 5 = nI n) (h : n ≤ 120) : ∀ (k p : Nat) (v : Int32) (N : Nat), p ≤ n → k < N → ¬ t_dig (t_at (M.1 55) n (t_num (t_at (M.1 55) n) k p v).1) → qF sl sx (d + 1) 183 N 20 [some (.ref 48), none, some (.int v)] [] (SP M p) = some (some (.int (t_num (t_at (M.1 55) n) k p v).2), SP M (t_num (t_at (M.1 55) n) k p v).1) := by
  intro k
  induction k with
  | zero =>
    intro p v N hp hN hd
    obtain ⟨N, rfl⟩ : ∃ N', N = N' + 1 := ⟨N - 1, by omega⟩
    have hd' : ¬ t_dig (t_at (M.1 55) n p) := hd
    rw [b_X9_takesO_20, k9_seen hn h hp, q_bi_s, k9_isDigit, q_bi_s, if_neg hd', if_pos rfl]
    rfl
  | succ k ih =>
    intro p v N hp hN hd
    obtain ⟨N, rfl⟩ : ∃ N', N = N' + 1 := ⟨N - 1, by omega⟩
    rw [t_num] at hd ⊢
    by_cases c : t_dig (t_at (M.1 55) n p)
    · rw [if_pos c] at hd ⊢
      have lt := t_dig_lt c
      have ih' := ih (p + 1) (v * 10 + t_at (M.1 55) n p - 48) N lt (by omega) hd
      rw [b_X9_takesO_20, k9_seen hn h hp, q_bi_s, k9_isDigit, q_bi_s, if_pos c, if_neg (by decide), sp_p, if_neg (nI_in (show p < 120 by omega) (by decide)), nI_clamp (by omega), sp_a _ _ (by decide), nI_1, sp_i, show M.1 55 p = t_at (M.1 55) n p by rw [t_at, if_pos lt], Int32.mul_comm 10 v]
      exact ih'
    · rw [if_neg c, b_X9_takesO_20, k9_seen hn h hp, q_bi_s, k9_isDigit, q_bi_s, if_neg c, if_pos rfl]
theorem tk_ps (hn : M.1 48 5 = nI n) (h : n ≤ 120) : ∀ (k o d : Nat), TK sl sx (d + k + 3) 183 n M (fun p => t_ps (t_at (M.1 55) n) k 5 o p) ∧ TK sl sx (d + k + 3) 184 n M (fun p => t_ps (t_at (M.1 55) n) k 4 o p) ∧ TK sl sx (d + k + 3) 185 n M (fun p => t_ps (t_at (M.1 55) n) k 3 o p) ∧ TK sl sx (d + k + 3) 186 n M (fun p => t_ps (t_at (M.1 55) n) k 2 o p) ∧ TK sl sx (d + k + 3) 187 n M (fun p => t_ps (t_at (M.1 55) n) k 1 o p) ∧ TK sl sx (d + k + 3) 188 n M (fun p => t_ps (t_at (M.1 55) n) k 0 o p) := by
  intro k
  induction k with
  | zero =>
    intro o d
    refine ⟨?_, ?_, ?_, ?_, ?_, ?_⟩ <;> exact fun p hp g => absurd g Bool.false_ne_true
  | succ k ih =>
    intro o d
    have hB : ∀ l p, p ≤ n → t_B n p (t_ps (t_at (M.1 55) n) k l o p) := fun l p hp => t_ps_B k l o p hp
    have i1 := ih o d
    rw [show d + (k + 1) + 3 = d + k + 1 + 3 by omega]
    refine ⟨?_, ?_, ?_, ?_, ?_, ?_⟩
    rotate_left
    · exact tk_P (hB 5) hn h i1.1
    · exact tk_S (hB 4) hn h i1.2.1
    · exact tk_B (hB 3) hn h i1.2.2.1
    · exact tk_A (hB 2) hn h i1.2.2.2.1
    · exact tk_E (hB 1) hn h i1.2.2.2.2.1
    intro p hp g1 g2
    simp only [t_ps] at g1 g2 ⊢
    rw [if_neg (by decide)] at g1 g2 ⊢
    have lt : p < n → p < 120 := fun q => by omega
    by_cases c1 : t_dig (t_at (M.1 55) n p)
    · rw [if_pos c1] at g1 g2 ⊢
      have l1 := t_dig_lt c1
      have l2 := lt l1
      have ea : M.1 55 p = t_at (M.1 55) n p := by rw [t_at, if_pos l1]
      rw [e_X9_takesO, b_X9_takesO_0, sp_p, if_neg (nI_in l2 (by decide)), nI_clamp (by omega), sp_a _ _ (by decide), ea, k9_isDigit, q_bi_s, if_pos c1, if_neg (by decide)]
      exact tk_num hn h 4 p 0 q_n1 hp (q_n1b (by decide)) g2
    · rw [if_neg c1] at g1 g2 ⊢
      by_cases c2 : t_nam (t_at (M.1 55) n p)
      · rw [if_pos c2] at g1 g2 ⊢
        obtain ⟨e1, e2, e3, e4, e5, e6, e7, e8, e9⟩ := t_nam_ne c2
        have l1 := t_at_lt e1
        have l2 := lt l1
        have ea : M.1 55 p = t_at (M.1 55) n p := by rw [t_at, if_pos l1]
        rw [e_X9_takesO, b_X9_takesO_0, sp_p, if_neg (nI_in l2 (by decide)), nI_clamp (by omega), sp_a _ _ (by decide), ea, k9_isDigit, q_bi_s, if_neg c1, if_pos rfl, if_neg e5, if_neg e6, if_neg e7, if_neg e9, sp_p, nI_1, sp_i, sp_a _ _ (by decide)]
        congr 4
        show _ = t_env (t_at (M.1 55) n p) _ _ _ _ _ _
        rcases c2 with q | q | q | q | q | q <;> rw [q] <;> rfl
      · rw [if_neg c2] at g1 g2 ⊢
        by_cases c3 : o < 6 ∧ (t_at (M.1 55) n p = 33 ∨ t_at (M.1 55) n p = 45)
        · rw [if_pos c3] at g1 g2 ⊢
          have l1 : p < n := t_at_lt (fun e => by rcases c3.2 with w | w <;> rw [e] at w <;> exact absurd w (by decide))
          have l2 := lt l1
          have ea : M.1 55 p = t_at (M.1 55) n p := by rw [t_at, if_pos l1]
          have i5 := (ih (o + 1) d).1 (p + 1) l1 g1 g2
          simp only [] at i5
          rw [e_X9_takesO, b_X9_takesO_0, sp_p, if_neg (nI_in l2 (by decide)), nI_clamp (by omega), sp_a _ _ (by decide), ea, k9_isDigit, q_bi_s, if_neg c1, if_pos rfl, sp_p, nI_1, sp_i, i5, q_bi_s, q_bi_s]
          generalize t_ps (t_at (M.1 55) n) k 5 (o + 1) (p + 1) = u
          rcases c3.2 with q | q
          · rw [if_pos q, q]
            show _ = some (some (Value.int (if t_ev M u = 0 then 1 else 0)), SP M u.2.1)
            generalize t_ev M u = w
            split
            · rw [k9_one, q_bi_s]; rfl
            · rw [k9_one, q_bi_s]; rfl
          · rw [if_neg (by rw [q]; decide), if_pos q, q]
            rfl
        · rw [if_neg c3] at g1 g2 ⊢
          by_cases c4 : o < 6 ∧ t_at (M.1 55) n p = 40
          · rw [if_pos c4] at g1 g2 ⊢
            have l1 : p < n := t_at_lt (fun e => by have w := c4.2; rw [e] at w; exact absurd w (by decide))
            have l2 := lt l1
            have ea : M.1 55 p = t_at (M.1 55) n p := by rw [t_at, if_pos l1]
            have i0 := (ih (o + 1) d).2.2.2.2.2 (p + 1) l1
            simp only [] at i0
            unfold t_cl at g1 g2 ⊢
            generalize t_ps (t_at (M.1 55) n) k 0 (o + 1) (p + 1) = u at *
            by_cases c5 : u.1 = true ∧ t_at (M.1 55) n u.2.1 = 41
            · rw [if_pos c5] at g1 g2 ⊢
              have i0' := i0 c5.1 (by rw [c5.2]; decide)
              rw [e_X9_takesO, b_X9_takesO_0, sp_p, if_neg (nI_in l2 (by decide)), nI_clamp (by omega), sp_a _ _ (by decide), ea, k9_isDigit, q_bi_s, if_neg c1, if_pos rfl, sp_p, nI_1, sp_i, if_neg (by rw [c4.2]; decide), if_neg (by rw [c4.2]; decide), if_pos c4.2, i0', q_bi_s, sp_p, nI_1, sp_i]
              rfl
            · rw [if_neg c5] at g1
              exact absurd g1 Bool.false_ne_true
          · rw [if_neg c4] at g1
            exact absurd g1 Bool.false_ne_true
theorem tk_given (K : Nat) (hn : M.1 48 5 = nI n) (h : n ≤ 120) : ∀ (k p N : Nat), p ≤ n → k < N → (t_tx (t_at (M.1 55) n) K k p).1 = true → (t_tx (t_at (M.1 55) n) K k p).2.1 = n → ∃ p', qF sl sx (d + K + 3) 189 N 5 [some (.ref 48), none, none] [] (SP M p) = some (some (.int (t_ev M (t_tx (t_at (M.1 55) n) K k p))), SP M p') := by
  intro k
  induction k with
  | zero => intro p N hp hN g; exact absurd g Bool.false_ne_true
  | succ k ih =>
    intro p N hp hN g1 g2
    obtain ⟨N, rfl⟩ : ∃ N', N = N' + 1 := ⟨N - 1, by omega⟩
    have hE := (tk_ps (sl := sl) (sx := sx) hn h K 0 d).2.2.2.2.2
    have nn : ¬ t_dig (t_at (M.1 55) n n) := by rw [t_at, if_neg (by omega)]; decide
    rw [t_tx] at g1 g2 ⊢
    have B1 := t_ps_B (t := M.1 55) K 0 0 p hp
    have hl1 : (t_ln (t_at (M.1 55) n) K p).1 = true := by
      by_cases c : (t_ln (t_at (M.1 55) n) K p).1 = true ∧ t_at (M.1 55) n (t_ln (t_at (M.1 55) n) K p).2.1 = 59
      · exact c.1
      · rw [if_neg c] at g1; exact g1
    have hE1 := hE p hp
    simp only [] at hE1
    by_cases c63 : (t_ps (t_at (M.1 55) n) K 0 0 p).1 = true ∧ t_at (M.1 55) n (t_ps (t_at (M.1 55) n) K 0 0 p).2.1 = 63
    · have l1 : (t_ps (t_at (M.1 55) n) K 0 0 p).2.1 < n := t_at_lt (fun e => by have w := c63.2; rw [e] at w; exact absurd w (by decide))
      have hE1' := hE1 c63.1 (by rw [c63.2]; decide)
      have hE2 := hE ((t_ps (t_at (M.1 55) n) K 0 0 p).2.1 + 1) l1
      have B2 := t_ps_B (t := M.1 55) K 0 0 ((t_ps (t_at (M.1 55) n) K 0 0 p).2.1 + 1) l1
      simp only [] at hE2
      have hln : t_ln (t_at (M.1 55) n) K p = _ := if_pos c63
      rw [hln] at g1 g2 hl1 ⊢
      simp only [] at g1 g2 hl1 ⊢
      have pl : p < n := by
        have a := B1.2.2.2.1 c63.1
        have b := B1.2.2.1
        omega
      rw [b_X9_given_5, sp_p, sp_k _ _ (by decide), hn, if_neg (nI_ge pl (by omega)), hE1', q_bi_s, k9_isSeenY hn h (Nat.le_of_lt l1) c63.2, q_bi_s, if_neg (by decide)]
      generalize t_ps (t_at (M.1 55) n) K 0 0 p = q at *
      generalize t_ps (t_at (M.1 55) n) K 0 0 (q.2.1 + 1) = u at *
      by_cases c59 : u.1 = true ∧ t_at (M.1 55) n u.2.1 = 59
      · rw [if_pos c59] at g1 g2 ⊢
        have l2 : u.2.1 < n := t_at_lt (fun e => by have w := c59.2; rw [e] at w; exact absurd w (by decide))
        rw [hE2 c59.1 (by rw [c59.2]; decide), q_bi_s]
        by_cases z : t_ev M q = 0
        · rw [if_pos z, sp_p, nI_1, sp_i]
          obtain ⟨p', hp'⟩ := ih (u.2.1 + 1) N l2 (by omega) g1 g2
          refine ⟨p', ?_⟩
          rw [hp']
          congr 4
          show _ = if t_ev M q = 0 then _ else _
          rw [if_pos z]
          rfl
        · rw [if_neg z]
          refine ⟨u.2.1, ?_⟩
          congr 4
          show _ = if t_ev M q = 0 then _ else _
          rw [if_neg z]
          rfl
      · rw [if_neg c59] at g1 g2 ⊢
        have g2' : u.2.1 = n := g2
        rw [hE2 g1 (by rw [g2']; exact nn), q_bi_s]
        by_cases z : t_ev M q = 0
        · rw [if_pos z, sp_p, nI_1, sp_i, g2']
          obtain ⟨N, rfl⟩ : ∃ N', N = N' + 1 := ⟨N - 1, by omega⟩
          rw [b_X9_given_5, sp_p, sp_k _ _ (by decide), hn, if_pos (nI_le (by omega) (by omega))]
          refine ⟨n + 1, ?_⟩
          congr 4
          show _ = if t_ev M q = 0 then (0 : Int32) else _
          rw [if_pos z]
        · rw [if_neg z]
          refine ⟨u.2.1, ?_⟩
          congr 4
          show _ = if t_ev M q = 0 then (0 : Int32) else _
          rw [if_neg z]
          rfl
    · have hln : t_ln (t_at (M.1 55) n) K p = _ := if_neg c63
      rw [hln] at g1 g2 hl1 ⊢
      simp only [] at g1 g2 hl1 ⊢
      have pl : p < n := by
        have a := B1.2.2.2.1 hl1
        have b := B1.2.2.1
        have c := B1.2.1
        omega
      have n63 : ¬ t_at (M.1 55) n (t_ps (t_at (M.1 55) n) K 0 0 p).2.1 = 63 := fun e => c63 ⟨hl1, e⟩
      have ndg : ¬ t_dig (t_at (M.1 55) n (t_ps (t_at (M.1 55) n) K 0 0 p).2.1) := by
        by_cases c59 : (t_ps (t_at (M.1 55) n) K 0 0 p).1 = true ∧ t_at (M.1 55) n (t_ps (t_at (M.1 55) n) K 0 0 p).2.1 = 59
        · rw [c59.2]; decide
        · rw [if_neg c59] at g2
          have g2' : (t_ps (t_at (M.1 55) n) K 0 0 p).2.1 = n := g2
          rw [g2']; exact nn
      rw [b_X9_given_5, sp_p, sp_k _ _ (by decide), hn, if_neg (nI_ge pl (by omega)), hE1 hl1 ndg, q_bi_s, k9_isSeenN hn h B1.2.1 n63, q_bi_s, if_pos rfl]
      refine ⟨(t_ps (t_at (M.1 55) n) K 0 0 p).2.1, ?_⟩
      congr 4
      by_cases c59 : (t_ps (t_at (M.1 55) n) K 0 0 p).1 = true ∧ t_at (M.1 55) n (t_ps (t_at (M.1 55) n) K 0 0 p).2.1 = 59
      · rw [if_pos c59]; rfl
      · rw [if_neg c59]; rfl
end TAKES
def TxOk (M : QM) : Prop := ∃ n, M.1 48 5 = nI n ∧ TxR (M.1 55) (M.1 18) n (M.1 17 1).toInt.toNat
theorem k9_given {sl : Nat} {sx : Nat → Int32} {d : Nat} {M : QM} (hX : TxOk M) : ∃ M', qK sl sx (d + 200) 189 [.ref 48] M = some (some (.int (GC M (M.1 60 97) (M.1 60 98) (M.1 60 99) (M.1 60 114) (M.1 60 103) (M.1 60 109))), M') ∧ Fr [4822] M M' := by
  obtain ⟨n, hn, K, k, hK, hk, r1, r2, r3, r4, r5⟩ := hX
  obtain ⟨p', hp'⟩ := tk_given (sl := sl) (sx := sx) (d := d + 196 - K) K hn r1 k 0 q_n1 (Nat.zero_le _) (q_n1b (by omega)) r2 r3
  rw [show d + 196 - K + K + 3 = d + 199 by omega] at hp'
  refine ⟨SP M p', ?_, sp_fr M p'⟩
  rw [e_X9_given, b_X9_given_0]
  show qF sl sx (d + 199) 189 q_n1 5 [some (.ref 48), none, none] [] (SP M 0) = _
  rw [hp']
  unfold GC
  rw [txr_run r1 r2 r3 r4 r5]
  rfl
