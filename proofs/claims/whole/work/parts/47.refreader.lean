/-! THE REFERENCE READS ITS TAPE (wip/whole/f) -/
def SR (M : QM) (p o : Nat) (r : Int32) : QM := (fun a k => if a = 48 ∧ k = 22 then nI p else if a = 48 ∧ k = 23 then nI o else if a = 48 ∧ k = 24 then r else M.1 a k, M.2)
theorem sr_22 (M : QM) (p o : Nat) (r : Int32) : (SR M p o r).1 48 22 = nI p := rfl
theorem sr_23 (M : QM) (p o : Nat) (r : Int32) : (SR M p o r).1 48 23 = nI o := rfl
theorem sr_24 (M : QM) (p o : Nat) (r : Int32) : (SR M p o r).1 48 24 = r := rfl
theorem sr_4 (M : QM) (p o : Nat) (r : Int32) : (SR M p o r).1 48 4 = M.1 48 4 := rfl
theorem sr_54 (M : QM) (p o : Nat) (r : Int32) : (SR M p o r).1 54 = M.1 54 := rfl
theorem sr_p (M : QM) (p p' o : Nat) (r : Int32) : (q_up (SR M p o r).1 48 22 (nI p'), (SR M p o r).2) = SR M p' o r := by
  refine Prod.ext ?_ rfl
  funext a k
  show (if a = 48 ∧ k = 22 then nI p' else (SR M p o r).1 a k) = (SR M p' o r).1 a k
  unfold SR
  simp only []
  by_cases e : a = 48 ∧ k = 22
  · rw [if_pos e, if_pos e]
  · rw [if_neg e, if_neg e, if_neg e]
theorem sr_o (M : QM) (p o o' : Nat) (r : Int32) : (q_up (SR M p o r).1 48 23 (nI o'), (SR M p o r).2) = SR M p o' r := by
  refine Prod.ext ?_ rfl
  funext a k
  show (if a = 48 ∧ k = 23 then nI o' else (SR M p o r).1 a k) = (SR M p o' r).1 a k
  unfold SR
  simp only []
  by_cases e : a = 48 ∧ k = 23
  · rw [if_pos e, if_neg (by omega), if_pos e]
  · rw [if_neg e, if_neg e, if_neg e]
theorem sr_r (M : QM) (p o : Nat) (r r' : Int32) : (q_up (SR M p o r).1 48 24 r', (SR M p o r).2) = SR M p o r' := by
  refine Prod.ext ?_ rfl
  funext a k
  show (if a = 48 ∧ k = 24 then r' else (SR M p o r).1 a k) = (SR M p o r').1 a k
  unfold SR
  simp only []
  by_cases e : a = 48 ∧ k = 24
  · rw [if_pos e, if_neg (by omega), if_neg (by omega), if_pos e]
  · rw [if_neg e, if_neg e, if_neg e]
theorem sr_po (M : QM) (p o p' o' : Nat) (r : Int32) : (q_up (q_up (SR M p o r).1 48 22 (nI p')) 48 23 (nI o'), (SR M p o r).2) = SR M p' o' r := by
  have e := sr_o M p' o o' r
  rw [← sr_p M p p' o r] at e
  exact e
theorem sr_ro (M : QM) (p o o' : Nat) (r r' : Int32) : (q_up (q_up (SR M p o r).1 48 24 r') 48 23 (nI o'), (SR M p o r).2) = SR M p o' r' := by
  have e := sr_o M p o o' r'
  rw [← sr_r M p o r r'] at e
  exact e
section RREAD
variable {sl : Nat} {sx : Nat → Int32} {d n p o : Nat} {M : QM} {x r : Int32}
theorem k9_next (hn : M.1 48 4 = nI n) (h : n ≤ 120) (hp : p ≤ n) : qK sl sx (d + 1) 168 [.ref 48] (SR M p o r) = some (some (.int (t_at (M.1 54) n p)), SR M p o r) := by
  rw [e_X9_next, b_X9_next_0, sr_22, sr_4, hn, sr_54]
  unfold t_at
  by_cases c : p < n
  · rw [if_neg (nI_ge c (by omega)), if_neg (nI_in (show p < 120 by omega) (by decide)), if_pos c, nI_clamp (by omega)]
  · rw [if_pos (nI_le (by omega) (by omega)), if_neg c]
theorem k9_isNextY (hn : M.1 48 4 = nI n) (h : n ≤ 120) (hp : p ≤ n) (hc : t_at (M.1 54) n p = x) : qK sl sx (d + 2) 169 [.ref 48, .int x] (SR M p o 1) = some (some (.int 1), SR M (p + 1) o 1) := by
  rw [e_X9_isNext, b_X9_isNext_0, sr_24, if_neg (by decide), k9_next hn h hp, q_bi_s, if_pos hc, sr_22, nI_1, sr_p]
theorem k9_isNextN (hn : M.1 48 4 = nI n) (h : n ≤ 120) (hp : p ≤ n) (hc : ¬ t_at (M.1 54) n p = x) : qK sl sx (d + 2) 169 [.ref 48, .int x] (SR M p o 1) = some (some (.int 0), SR M p o 1) := by
  rw [e_X9_isNext, b_X9_isNext_0, sr_24, if_neg (by decide), k9_next hn h hp, q_bi_s, if_neg hc]
theorem k9_isNext0 : qK sl sx (d + 2) 169 [.ref 48, .int x] (SR M p o 0) = some (some (.int 0), SR M p o 0) := by
  rw [e_X9_isNext, b_X9_isNext_0, sr_24, if_pos rfl]
theorem k9_isName : qK sl sx (d + 1) 171 [.ref 48, .int x] M = some (some (.int (if t_nam x then 1 else 0)), M) := by
  rw [e_X9_isName, b_X9_isName_0]
  grind
abbrev t_fo (q : PR) : Int32 := if q.1 = true then 1 else 0
/-- what a method that reads does: it ends where the text's thing ends -/
def RR (sl : Nat) (sx : Nat → Int32) (D j n o : Nat) (M : QM) (nx : Nat → PR) : Prop := ∀ p, p ≤ n → qK sl sx D j [.ref 48] (SR M p o 1) = some (none, SR M (nx p).2.1 o (t_fo (nx p)))
theorem rr_loop {l : Nat} {nx : Nat → PR} {F : Nat → QM → Option (Option Value × QM)} (hB : ∀ p, p ≤ n → t_B n p (nx p)) (hn : M.1 48 4 = nI n) (h : n ≤ 120)
    (st : ∀ N p, p < n → t_bel l (t_at (M.1 54) n p) = true → F (N + 1) (SR M p o 1) = F N (SR M (nx (p + 1)).2.1 o (t_fo (nx (p + 1)))))
    (fin : ∀ N p, p ≤ n → ¬ t_bel l (t_at (M.1 54) n p) = true → F (N + 1) (SR M p o 1) = some (none, SR M p o 1))
    (fin0 : ∀ N p, F (N + 1) (SR M p o 0) = some (none, SR M p o 0)) {q : Nat} :
    ∀ (f : Nat) (r : PR) (N : Nat), t_B n q r → (r.1 = true → n < f + r.2.1) → f < N → F N (SR M r.2.1 o (t_fo r)) = some (none, SR M (t_lp (t_at (M.1 54) n) nx l f r).2.1 o (t_fo (t_lp (t_at (M.1 54) n) nx l f r))) := by
  intro f
  induction f with
  | zero =>
    intro r N hr hl hN
    obtain ⟨N, rfl⟩ : ∃ N', N = N' + 1 := ⟨N - 1, by omega⟩
    have b := hr.2.1
    have r1 : ¬ r.1 = true := fun e => by have := hl e; omega
    rw [show t_lp (t_at (M.1 54) n) nx l 0 r = r from rfl, show t_fo r = 0 from if_neg r1]
    exact fin0 N _
  | succ f ih =>
    intro r N hr hl hN
    obtain ⟨N, rfl⟩ : ∃ N', N = N' + 1 := ⟨N - 1, by omega⟩
    rw [t_lp]
    by_cases r1 : r.1 = true
    · by_cases c : t_bel l (t_at (M.1 54) n r.2.1) = true
      · have lt := t_at_lt (t_bel_ne c).1
        have hB' : t_B n q (t_lp (t_at (M.1 54) n) nx l 1 r) := t_lp_B hB 1 r hr
        rw [t_lp, if_pos ⟨r1, c⟩] at hB'
        have hb := (hB (r.2.1 + 1) lt).1
        have hl' := hl r1
        rw [if_pos ⟨r1, c⟩, show t_fo r = 1 from if_pos r1, st N r.2.1 lt c]
        exact ih _ N hB' (fun _ => by show n < f + (nx (r.2.1 + 1)).2.1; omega) (by omega)
      · rw [if_neg (fun k => c k.2), show t_fo r = 1 from if_pos r1]
        exact fin N _ hr.2.1 c
    · rw [if_neg (fun k => r1 k.1), show t_fo r = 0 from if_neg r1]
      exact fin0 N _
theorem rr_E {nx : Nat → PR} (hB : ∀ p, p ≤ n → t_B n p (nx p)) (hn : M.1 48 4 = nI n) (h : n ≤ 120) (hT : RR sl sx (d + 2) 176 n o M nx) : RR sl sx (d + 3) 177 n o M (fun p => t_lp (t_at (M.1 54) n) nx 0 120 (nx p)) := by
  intro p hp
  rw [e_X9_readsE, b_X9_readsE_0, hT p hp, q_bv_s]
  refine rr_loop (F := fun N M' => qF sl sx (d + 2) 177 N 4 [some (.ref 48)] [] M') hB hn h (fun N p hp c => ?_) (fun N p hp c => ?_) (fun N p => ?_) 120 (nx p) q_n1 (hB p hp) (fun r1 => by have a := (hB p hp).2.2.2.1 r1; have b := (hB p hp).2.2.1; omega) (q_n1b (by decide))
  · have c' : t_at (M.1 54) n p = 124 := by simpa [t_bel] using c
    rw [b_X9_readsE_4, k9_isNextY hn h (Nat.le_of_lt hp) c', q_bi_s, if_neg (by decide), hT (p + 1) hp, q_bv_s]
  · have c' : ¬ t_at (M.1 54) n p = 124 := fun e => c (by rw [e]; rfl)
    rw [b_X9_readsE_4, k9_isNextN hn h hp c', q_bi_s, if_pos rfl]
  · rw [b_X9_readsE_4, k9_isNext0, q_bi_s, if_pos rfl]
theorem rr_A {nx : Nat → PR} (hB : ∀ p, p ≤ n → t_B n p (nx p)) (hn : M.1 48 4 = nI n) (h : n ≤ 120) (hT : RR sl sx (d + 2) 175 n o M nx) : RR sl sx (d + 3) 176 n o M (fun p => t_lp (t_at (M.1 54) n) nx 1 120 (nx p)) := by
  intro p hp
  rw [e_X9_readsA, b_X9_readsA_0, hT p hp, q_bv_s]
  refine rr_loop (F := fun N M' => qF sl sx (d + 2) 176 N 4 [some (.ref 48)] [] M') hB hn h (fun N p hp c => ?_) (fun N p hp c => ?_) (fun N p => ?_) 120 (nx p) q_n1 (hB p hp) (fun r1 => by have a := (hB p hp).2.2.2.1 r1; have b := (hB p hp).2.2.1; omega) (q_n1b (by decide))
  · have c' : t_at (M.1 54) n p = 38 := by simpa [t_bel] using c
    rw [b_X9_readsA_4, k9_isNextY hn h (Nat.le_of_lt hp) c', q_bi_s, if_neg (by decide), hT (p + 1) hp, q_bv_s]
  · have c' : ¬ t_at (M.1 54) n p = 38 := fun e => c (by rw [e]; rfl)
    rw [b_X9_readsA_4, k9_isNextN hn h hp c', q_bi_s, if_pos rfl]
  · rw [b_X9_readsA_4, k9_isNext0, q_bi_s, if_pos rfl]
theorem rr_S {nx : Nat → PR} (hB : ∀ p, p ≤ n → t_B n p (nx p)) (hn : M.1 48 4 = nI n) (h : n ≤ 120) (hT : RR sl sx (d + 2) 173 n o M nx) : RR sl sx (d + 3) 174 n o M (fun p => t_lp (t_at (M.1 54) n) nx 3 120 (nx p)) := by
  intro p hp
  rw [e_X9_readsS, b_X9_readsS_0, hT p hp, q_bv_s]
  refine rr_loop (F := fun N M' => qF sl sx (d + 2) 174 N 4 [some (.ref 48)] [] M') hB hn h (fun N p hp c => ?_) (fun N p hp c => ?_) (fun N p => ?_) 120 (nx p) q_n1 (hB p hp) (fun r1 => by have a := (hB p hp).2.2.2.1 r1; have b := (hB p hp).2.2.1; omega) (q_n1b (by decide))
  · have c' : t_at (M.1 54) n p = 43 ∨ t_at (M.1 54) n p = 45 := by simpa [t_bel] using c
    rcases c' with c' | c'
    · rw [b_X9_readsS_4, k9_isNextY hn h (Nat.le_of_lt hp) c', q_bi_s, if_neg (by decide), hT (p + 1) hp, q_bv_s]
    · have nc : ¬ t_at (M.1 54) n p = 43 := by rw [c']; decide
      rw [b_X9_readsS_4, k9_isNextN hn h (Nat.le_of_lt hp) nc, q_bi_s, if_pos rfl, k9_isNextY hn h (Nat.le_of_lt hp) c', q_bi_s, if_neg (by decide), hT (p + 1) hp, q_bv_s]
  · have c1 : ¬ t_at (M.1 54) n p = 43 := fun e => c (by rw [e]; rfl)
    have c2 : ¬ t_at (M.1 54) n p = 45 := fun e => c (by rw [e]; rfl)
    rw [b_X9_readsS_4, k9_isNextN hn h hp c1, q_bi_s, if_pos rfl, k9_isNextN hn h hp c2, q_bi_s, if_pos rfl]
  · rw [b_X9_readsS_4, k9_isNext0, q_bi_s, if_pos rfl, k9_isNext0, q_bi_s, if_pos rfl]
theorem rr_P {nx : Nat → PR} (hB : ∀ p, p ≤ n → t_B n p (nx p)) (hn : M.1 48 4 = nI n) (h : n ≤ 120) (hT : RR sl sx (d + 2) 172 n o M nx) : RR sl sx (d + 3) 173 n o M (fun p => t_lp (t_at (M.1 54) n) nx 4 120 (nx p)) := by
  intro p hp
  rw [e_X9_readsP, b_X9_readsP_0, hT p hp, q_bv_s]
  refine rr_loop (F := fun N M' => qF sl sx (d + 2) 173 N 4 [some (.ref 48)] [] M') hB hn h (fun N p hp c => ?_) (fun N p hp c => ?_) (fun N p => ?_) 120 (nx p) q_n1 (hB p hp) (fun r1 => by have a := (hB p hp).2.2.2.1 r1; have b := (hB p hp).2.2.1; omega) (q_n1b (by decide))
  · have c' : t_at (M.1 54) n p = 42 ∨ t_at (M.1 54) n p = 47 ∨ t_at (M.1 54) n p = 37 := by simpa [t_bel, or_assoc] using c
    rcases c' with c' | c' | c'
    · rw [b_X9_readsP_4, k9_isNextY hn h (Nat.le_of_lt hp) c', q_bi_s, if_neg (by decide), hT (p + 1) hp, q_bv_s]
    · have nc : ¬ t_at (M.1 54) n p = 42 := by rw [c']; decide
      rw [b_X9_readsP_4, k9_isNextN hn h (Nat.le_of_lt hp) nc, q_bi_s, if_pos rfl, k9_isNextY hn h (Nat.le_of_lt hp) c', q_bi_s, if_neg (by decide), hT (p + 1) hp, q_bv_s]
    · have nc : ¬ t_at (M.1 54) n p = 42 := by rw [c']; decide
      have nc2 : ¬ t_at (M.1 54) n p = 47 := by rw [c']; decide
      rw [b_X9_readsP_4, k9_isNextN hn h (Nat.le_of_lt hp) nc, q_bi_s, if_pos rfl, k9_isNextN hn h (Nat.le_of_lt hp) nc2, q_bi_s, if_pos rfl, k9_isNextY hn h (Nat.le_of_lt hp) c', q_bi_s, if_neg (by decide), hT (p + 1) hp, q_bv_s]
  · have c1 : ¬ t_at (M.1 54) n p = 42 := fun e => c (by rw [e]; rfl)
    have c2 : ¬ t_at (M.1 54) n p = 47 := fun e => c (by rw [e]; rfl)
    have c3 : ¬ t_at (M.1 54) n p = 37 := fun e => c (by rw [e]; rfl)
    rw [b_X9_readsP_4, k9_isNextN hn h hp c1, q_bi_s, if_pos rfl, k9_isNextN hn h hp c2, q_bi_s, if_pos rfl, k9_isNextN hn h hp c3, q_bi_s, if_pos rfl]
  · rw [b_X9_readsP_4, k9_isNext0, q_bi_s, if_pos rfl, k9_isNext0, q_bi_s, if_pos rfl, k9_isNext0, q_bi_s, if_pos rfl]
theorem rr_B {nx : Nat → PR} (hB : ∀ p, p ≤ n → t_B n p (nx p)) (hn : M.1 48 4 = nI n) (h : n ≤ 120) (hT : RR sl sx (d + 2) 174 n o M nx) : RR sl sx (d + 3) 175 n o M (fun p => t_lp (t_at (M.1 54) n) nx 2 1 (nx p)) := by
  intro p hp
  have hb := (hB p hp).2.1
  rw [e_X9_readsB, b_X9_readsB_0, hT p hp, q_bv_s]
  simp only [t_lp]
  generalize nx p = r at *
  by_cases r1 : r.1 = true
  · rw [show t_fo r = 1 from if_pos r1]
    by_cases c : t_bel 2 (t_at (M.1 54) n r.2.1) = true
    · rw [if_pos ⟨r1, c⟩]
      have lt := t_at_lt (t_bel_ne c).1
      have c' : t_at (M.1 54) n r.2.1 = 60 ∨ t_at (M.1 54) n r.2.1 = 61 ∨ t_at (M.1 54) n r.2.1 = 62 := by simpa [t_bel, or_assoc] using c
      rcases c' with c' | c' | c'
      · rw [k9_isNextY hn h hb c', q_bi_s, if_neg (by decide), hT (r.2.1 + 1) lt, q_bv_s]
        rfl
      · have nc : ¬ t_at (M.1 54) n r.2.1 = 60 := by rw [c']; decide
        rw [k9_isNextN hn h hb nc, q_bi_s, if_pos rfl, k9_isNextY hn h hb c', q_bi_s, if_neg (by decide), hT (r.2.1 + 1) lt, q_bv_s]
        rfl
      · have nc : ¬ t_at (M.1 54) n r.2.1 = 60 := by rw [c']; decide
        have nc2 : ¬ t_at (M.1 54) n r.2.1 = 61 := by rw [c']; decide
        rw [k9_isNextN hn h hb nc, q_bi_s, if_pos rfl, k9_isNextN hn h hb nc2, q_bi_s, if_pos rfl, k9_isNextY hn h hb c', q_bi_s, if_neg (by decide), hT (r.2.1 + 1) lt, q_bv_s]
        rfl
    · have c1 : ¬ t_at (M.1 54) n r.2.1 = 60 := fun e => c (by rw [e]; rfl)
      have c2 : ¬ t_at (M.1 54) n r.2.1 = 61 := fun e => c (by rw [e]; rfl)
      have c3 : ¬ t_at (M.1 54) n r.2.1 = 62 := fun e => c (by rw [e]; rfl)
      rw [if_neg (fun k => c k.2), k9_isNextN hn h hb c1, q_bi_s, if_pos rfl, k9_isNextN hn h hb c2, q_bi_s, if_pos rfl, k9_isNextN hn h hb c3, q_bi_s, if_pos rfl, show t_fo r = 1 from if_pos r1]
  · rw [show t_fo r = 0 from if_neg r1, if_neg (fun k => r1 k.1), k9_isNext0, q_bi_s, if_pos rfl, k9_isNext0, q_bi_s, if_pos rfl, k9_isNext0, q_bi_s, if_pos rfl, show t_fo r = 0 from if_neg r1]
theorem rr_num (hn : M.1 48 4 = nI n) (h : n ≤ 120) : ∀ (k p i N : Nat) (v : Int32), p ≤ n → k + i = 4 → k < N → qF sl sx (d + 1) 172 N 23 [some (.ref 48), none, some (.int (nI i))] [] (SR M p o 1) = some (none, SR M (t_num (t_at (M.1 54) n) k p v).1 o 1) := by
  intro k
  induction k with
  | zero =>
    intro p i N v hp hi hN
    obtain ⟨N, rfl⟩ : ∃ N', N = N' + 1 := ⟨N - 1, by omega⟩
    rw [b_X9_readsO_23, show i = 4 by omega, if_pos (show (4 : Int32) ≤ nI 4 by decide)]
    rfl
  | succ k ih =>
    intro p i N v hp hi hN
    obtain ⟨N, rfl⟩ : ∃ N', N = N' + 1 := ⟨N - 1, by omega⟩
    rw [t_num, b_X9_readsO_23, if_neg (show ¬ (4 : Int32) ≤ nI i by rw [Int32.le_iff_toInt_le, nI_toInt (by omega), qv_4]; omega), k9_next hn h hp, q_bi_s, k9_isDigit, q_bi_s]
    by_cases q : t_dig (t_at (M.1 54) n p)
    · rw [if_pos q, if_pos q, if_neg (by decide), sr_22, nI_1, nI_1, sr_p]
      exact ih (p + 1) (i + 1) N _ (t_dig_lt q) (by omega) (by omega)
    · rw [if_neg q, if_neg q, if_pos rfl]
theorem rr_ps (hn : M.1 48 4 = nI n) (h : n ≤ 120) : ∀ (k d : Nat), (∀ o, o ≤ 6 → (6 - o) * 6 + 1 ≤ k → RR sl sx (d + k + 3) 172 n o M (fun p => t_ps (t_at (M.1 54) n) k 5 o p)) ∧ (∀ o, o ≤ 6 → (6 - o) * 6 + 2 ≤ k → RR sl sx (d + k + 3) 173 n o M (fun p => t_ps (t_at (M.1 54) n) k 4 o p)) ∧ (∀ o, o ≤ 6 → (6 - o) * 6 + 3 ≤ k → RR sl sx (d + k + 3) 174 n o M (fun p => t_ps (t_at (M.1 54) n) k 3 o p)) ∧ (∀ o, o ≤ 6 → (6 - o) * 6 + 4 ≤ k → RR sl sx (d + k + 3) 175 n o M (fun p => t_ps (t_at (M.1 54) n) k 2 o p)) ∧ (∀ o, o ≤ 6 → (6 - o) * 6 + 5 ≤ k → RR sl sx (d + k + 3) 176 n o M (fun p => t_ps (t_at (M.1 54) n) k 1 o p)) ∧ (∀ o, o ≤ 6 → (6 - o) * 6 + 6 ≤ k → RR sl sx (d + k + 3) 177 n o M (fun p => t_ps (t_at (M.1 54) n) k 0 o p)) := by
  intro k
  induction k with
  | zero =>
    intro d
    refine ⟨?_, ?_, ?_, ?_, ?_, ?_⟩ <;> exact fun o ho hk => by omega
  | succ k ih =>
    intro d
    have hB : ∀ l o p, p ≤ n → t_B n p (t_ps (t_at (M.1 54) n) k l o p) := fun l o p hp => t_ps_B k l o p hp
    have i1 := ih d
    rw [show d + (k + 1) + 3 = d + k + 1 + 3 by omega]
    refine ⟨?_, ?_, ?_, ?_, ?_, ?_⟩
    rotate_left
    · exact fun o ho hk => rr_P (hB 5 o) hn h (i1.1 o ho (by omega))
    · exact fun o ho hk => rr_S (hB 4 o) hn h (i1.2.1 o ho (by omega))
    · exact fun o ho hk => rr_B (hB 3 o) hn h (i1.2.2.1 o ho (by omega))
    · exact fun o ho hk => rr_A (hB 2 o) hn h (i1.2.2.2.1 o ho (by omega))
    · exact fun o ho hk => rr_E (hB 1 o) hn h (i1.2.2.2.2.1 o ho (by omega))
    intro o ho hk p hp
    simp only [t_ps]
    rw [if_neg (by decide), e_X9_readsO, b_X9_readsO_0, sr_24, if_neg (by decide), k9_next hn h hp, q_bi_s, k9_isDigit, q_bi_s]
    by_cases c1 : t_dig (t_at (M.1 54) n p)
    · rw [if_pos c1, if_pos c1, if_neg (by decide)]
      exact rr_num hn h 4 p 0 q_n1 0 hp rfl (q_n1b (by decide))
    rw [if_neg c1, if_neg c1, if_pos rfl, k9_isName, q_bi_s]
    by_cases c2 : t_nam (t_at (M.1 54) n p)
    · rw [if_pos c2, if_pos c2, if_neg (by decide), sr_22, nI_1, sr_p]
      rfl
    rw [if_neg c2, if_neg c2, if_pos rfl]
    obtain ⟨N, hN⟩ : ∃ N, q_n1 = N + 1 := ⟨999998, rfl⟩
    rw [hN]
    by_cases c3 : t_at (M.1 54) n p = 33 ∨ t_at (M.1 54) n p = 45
    · have e1 : (if t_at (M.1 54) n p = 33 then (qF sl sx (d + k + 1 + 2) 172 (N + 1) 93 [some (.ref 48), some (.int (t_at (M.1 54) n p)), none] [] (SR M p o 1)) else (if t_at (M.1 54) n p = 45 then (qF sl sx (d + k + 1 + 2) 172 (N + 1) 93 [some (.ref 48), some (.int (t_at (M.1 54) n p)), none] [] (SR M p o 1)) else (if t_at (M.1 54) n p = 40 then (qF sl sx (d + k + 1 + 2) 172 (N + 1) 93 [some (.ref 48), some (.int (t_at (M.1 54) n p)), none] [] (SR M p o 1)) else (some (none, ((q_up (SR M p o 1).1 48 24 0), (SR M p o 1).2)))))) = qF sl sx (d + k + 1 + 2) 172 (N + 1) 93 [some (.ref 48), some (.int (t_at (M.1 54) n p)), none] [] (SR M p o 1) := by
        rcases c3 with q | q
        · rw [if_pos q]
        · rw [if_neg (by rw [q]; decide), if_pos q]
      rw [e1, b_X9_readsO_93, sr_23]
      have n40 : ¬ t_at (M.1 54) n p = 40 := by rcases c3 with q | q <;> rw [q] <;> decide
      by_cases ho6 : o < 6
      · have l1 : p < n := t_at_lt (fun e => by rcases c3 with w | w <;> rw [e] at w <;> exact absurd w (by decide))
        have i5 := i1.1 (o + 1) (by omega) (by omega) (p + 1) l1
        simp only [] at i5
        rw [if_neg (show ¬ nI o = 6 by rw [q_eqI, nI_toInt (by omega), qv_6]; omega), if_neg n40, sr_22, nI_1 p, nI_1 o, sr_po, show d + k + 1 + 2 = d + k + 3 by omega, i5, q_bv_s, sr_23, nI_pred, sr_o, if_pos (show o < 6 ∧ (t_at (M.1 54) n p = 33 ∨ t_at (M.1 54) n p = 45) from ⟨ho6, c3⟩)]
        rfl
      · have o6 : nI o = 6 := by rw [q_eqI, nI_toInt (by omega), qv_6]; omega
        rw [if_pos o6, sr_r, if_neg (show ¬ (o < 6 ∧ (t_at (M.1 54) n p = 33 ∨ t_at (M.1 54) n p = 45)) from fun k => ho6 k.1), if_neg (show ¬ (o < 6 ∧ t_at (M.1 54) n p = 40) from fun k => ho6 k.1)]
        rfl
    · have c31 : ¬ t_at (M.1 54) n p = 33 := fun e => c3 (Or.inl e)
      have c32 : ¬ t_at (M.1 54) n p = 45 := fun e => c3 (Or.inr e)
      rw [if_neg c31, if_neg c32, if_neg (show ¬ (o < 6 ∧ (t_at (M.1 54) n p = 33 ∨ t_at (M.1 54) n p = 45)) from fun k => c3 k.2)]
      by_cases c4 : t_at (M.1 54) n p = 40
      · rw [if_pos c4, b_X9_readsO_93, sr_23]
        by_cases ho6 : o < 6
        · have l1 : p < n := t_at_lt (fun e => by rw [e] at c4; exact absurd c4 (by decide))
          have i0 := i1.2.2.2.2.2 (o + 1) (by omega) (by omega) (p + 1) l1
          simp only [] at i0
          have B0 := hB 0 (o + 1) (p + 1) l1
          rw [if_neg (show ¬ nI o = 6 by rw [q_eqI, nI_toInt (by omega), qv_6]; omega), if_pos c4, sr_22, nI_1 p, nI_1 o, sr_po, show d + k + 1 + 2 = d + k + 3 by omega, i0, q_bv_s, if_pos (show o < 6 ∧ t_at (M.1 54) n p = 40 from ⟨ho6, c4⟩)]
          generalize t_ps (t_at (M.1 54) n) k 0 (o + 1) (p + 1) = u at *
          unfold t_cl
          rw [sr_24]
          by_cases r1 : u.1 = true
          · rw [show t_fo u = 1 from if_pos r1, if_neg (by decide)]
            by_cases w : t_at (M.1 54) n u.2.1 = 41
            · rw [k9_isNextY hn h B0.2.1 w, q_bi_s, if_neg (by decide), sr_23, nI_pred, sr_o, if_pos ⟨r1, w⟩]
              rfl
            · rw [k9_isNextN hn h B0.2.1 w, q_bi_s, if_pos rfl, if_neg (fun k => w k.2), sr_23, nI_pred, sr_ro]
              rfl
          · rw [show t_fo u = 0 from if_neg r1, if_pos rfl, sr_23, nI_pred, sr_o, if_neg (fun k => r1 k.1)]
            rfl
        · have o6 : nI o = 6 := by rw [q_eqI, nI_toInt (by omega), qv_6]; omega
          rw [if_pos o6, sr_r, if_neg (show ¬ (o < 6 ∧ t_at (M.1 54) n p = 40) from fun k => ho6 k.1)]
          rfl
      · rw [if_neg c4, if_neg (show ¬ (o < 6 ∧ t_at (M.1 54) n p = 40) from fun k => c4 k.2), sr_r]
        rfl
theorem k9_readsLine {K : Nat} (hK : K = 42) (hn : M.1 48 4 = nI n) (h : n ≤ 120) (hp : p ≤ n) : qK sl sx (d + 50) 178 [.ref 48] (SR M p 0 1) = some (none, SR M (t_ln (t_at (M.1 54) n) K p).2.1 0 (if (t_ln (t_at (M.1 54) n) K p).1 = true then 1 else 0)) := by
  have R := (rr_ps (sl := sl) (sx := sx) hn h K (d + 4)).2.2.2.2.2 0 (by decide) (by omega)
  rw [show d + 4 + K + 3 = d + 49 by omega] at R
  have R1 := R p hp
  have B1 := t_ps_B (t := M.1 54) K 0 0 p hp
  simp only [] at R1
  rw [e_X9_readsLine, b_X9_readsLine_0, R1, q_bv_s]
  unfold t_ln
  generalize t_ps (t_at (M.1 54) n) K 0 0 p = q at *
  by_cases r1 : q.1 = true
  · rw [show t_fo q = 1 from if_pos r1]
    by_cases w : t_at (M.1 54) n q.2.1 = 63
    · have l1 : q.2.1 < n := t_at_lt (fun e => by rw [e] at w; exact absurd w (by decide))
      have R2 := R (q.2.1 + 1) l1
      simp only [] at R2
      rw [k9_isNextY hn h B1.2.1 w, q_bi_s, if_neg (by decide), R2, q_bv_s, if_pos ⟨r1, w⟩]
    · rw [k9_isNextN hn h B1.2.1 w, q_bi_s, if_pos rfl, if_neg (fun k => w k.2)]
      show _ = some (none, SR M q.2.1 0 (if q.1 = true then 1 else 0))
      rw [if_pos r1]
  · rw [show t_fo q = 0 from if_neg r1, k9_isNext0, q_bi_s, if_pos rfl, if_neg (fun k => r1 k.1)]
    show _ = some (none, SR M q.2.1 0 (if q.1 = true then 1 else 0))
    rw [if_neg r1]
theorem k9_lawL {K : Nat} (hK : K = 42) (hn : M.1 48 4 = nI n) (h : n ≤ 120) : ∀ (k p N : Nat), p ≤ n → n < k + p + 1 → k < N → ∃ N', N ≤ N' + k + 1 ∧ q_bv (qK sl sx (d + 50) 178 [.ref 48] (SR M p 0 1)) (fun M1 => qF sl sx (d + 50) 179 N 19 [some (.ref 48), none, none, none] [] M1) = if (t_tx (t_at (M.1 54) n) K (k + 1) p).1 = true ∧ (t_tx (t_at (M.1 54) n) K (k + 1) p).2.1 = n then qF sl sx (d + 50) 179 N' 70 [some (.ref 48), some (.int 1), some (.int (nI n)), some (.int 0)] [] (SR M n 0 1) else some (some (.int ((-100) - nI (t_tx (t_at (M.1 54) n) K (k + 1) p).2.1)), (q_up (SR M (t_tx (t_at (M.1 54) n) K (k + 1) p).2.1 0 (if (t_tx (t_at (M.1 54) n) K (k + 1) p).1 = true then 1 else 0)).1 48 4 0, M.2)) := by
  intro k
  induction k with
  | zero =>
    intro p N hp hk hN
    obtain ⟨N, rfl⟩ : ∃ N', N = N' + 1 := ⟨N - 1, by omega⟩
    refine ⟨N, by omega, ?_⟩
    have B := t_ln_B (t := M.1 54) (K := K) hp
    have n59 : ¬ t_at (M.1 54) n (t_ln (t_at (M.1 54) n) K p).2.1 = 59 := fun e => by
      have := t_at_lt (t := M.1 54) (n := n) (p := (t_ln (t_at (M.1 54) n) K p).2.1) (by rw [e]; decide)
      have := B.1
      omega
    have hT : t_tx (t_at (M.1 54) n) K (0 + 1) p = _ := if_neg (show ¬ ((t_ln (t_at (M.1 54) n) K p).1 = true ∧ t_at (M.1 54) n (t_ln (t_at (M.1 54) n) K p).2.1 = 59) from fun k => n59 k.2)
    rw [k9_readsLine hK hn h hp, q_bv_s, b_X9_law_19, hT]
    dsimp only
    generalize t_ln (t_at (M.1 54) n) K p = q at *
    have B2 := B.2.1
    by_cases r1 : q.1 = true
    · rw [if_pos r1, k9_isNextN hn h B2 n59, q_bi_s, if_pos rfl, sr_24, if_neg (show ¬ (1 : Int32) = 0 by decide), sr_22, sr_4, hn]
      by_cases w : q.2.1 = n
      · rw [if_pos (show nI q.2.1 = nI n by rw [w]), if_pos (show q.1 = true ∧ q.2.1 = n from ⟨r1, w⟩), w]
      · rw [if_neg (fun e => w ((nI_eq (by omega) (by omega)).mp e)), if_neg (show ¬ (q.1 = true ∧ q.2.1 = n) from fun k => w k.2)]
        rfl
    · rw [if_neg r1, k9_isNext0, q_bi_s, if_pos rfl, sr_24, if_pos (show (0 : Int32) = 0 from rfl), sr_22, if_neg (show ¬ (q.1 = true ∧ q.2.1 = n) from fun k => r1 k.1)]
      rfl
  | succ k ih =>
    intro p N hp hk hN
    obtain ⟨N, rfl⟩ : ∃ N', N = N' + 1 := ⟨N - 1, by omega⟩
    have B := t_ln_B (t := M.1 54) (K := K) hp
    rw [k9_readsLine hK hn h hp, q_bv_s, b_X9_law_19]
    by_cases w59 : (t_ln (t_at (M.1 54) n) K p).1 = true ∧ t_at (M.1 54) n (t_ln (t_at (M.1 54) n) K p).2.1 = 59
    · have hT : t_tx (t_at (M.1 54) n) K (k + 1 + 1) p = _ := if_pos w59
      rw [hT]
      dsimp only
      generalize t_ln (t_at (M.1 54) n) K p = q at *
      obtain ⟨B1, B2, B3⟩ := B
      obtain ⟨r1, w⟩ := w59
      have l1 : q.2.1 < n := t_at_lt (fun e => by rw [e] at w; exact absurd w (by decide))
      rw [if_pos r1, k9_isNextY hn h B2 w, q_bi_s, if_neg (show ¬ (1 : Int32) = 0 by decide)]
      obtain ⟨N', h1, h2⟩ := ih (q.2.1 + 1) N l1 (by omega) (by omega)
      exact ⟨N', by omega, h2⟩
    · have hT : t_tx (t_at (M.1 54) n) K (k + 1 + 1) p = _ := if_neg w59
      rw [hT]
      dsimp only
      refine ⟨N, by omega, ?_⟩
      generalize t_ln (t_at (M.1 54) n) K p = q at *
      obtain ⟨B1, B2, B3⟩ := B
      by_cases r1 : q.1 = true
      · have w : ¬ t_at (M.1 54) n q.2.1 = 59 := fun e => w59 ⟨r1, e⟩
        rw [if_pos r1, k9_isNextN hn h B2 w, q_bi_s, if_pos rfl, sr_24, if_neg (show ¬ (1 : Int32) = 0 by decide), sr_22, sr_4, hn]
        by_cases w : q.2.1 = n
        · rw [if_pos (show nI q.2.1 = nI n by rw [w]), if_pos (show q.1 = true ∧ q.2.1 = n from ⟨r1, w⟩), w]
        · rw [if_neg (fun e => w ((nI_eq (by omega) (by omega)).mp e)), if_neg (show ¬ (q.1 = true ∧ q.2.1 = n) from fun k => w k.2)]
          rfl
      · rw [if_neg r1, k9_isNext0, q_bi_s, if_pos rfl, sr_24, if_pos (show (0 : Int32) = 0 from rfl), sr_22, if_neg (show ¬ (q.1 = true ∧ q.2.1 = n) from fun k => r1 k.1)]
        rfl
theorem k9_lawC (hn : n ≤ 120) : ∀ (k i N : Nat) (M' : QM), k + i = n → k < N → M'.1 48 4 = nI n → (∀ j, j < i → M'.1 55 j = M'.1 54 j) → ∃ M2, qF sl sx d 179 N 70 [some (.ref 48), some (.int 1), some (.int (nI n)), some (.int (nI i))] [] M' = some (some (.int 1), M2) ∧ Fr [55, 4805, 4808, 4804] M' M2 ∧ (∀ j, j < n → M2.1 55 j = M'.1 54 j) ∧ M2.1 48 5 = nI n ∧ M2.1 48 8 = 1 ∧ M2.1 48 4 = 0 := by
  intro k
  induction k with
  | zero =>
    intro i N M' hi hN h4 hj
    obtain ⟨N, rfl⟩ : ∃ N', N = N' + 1 := ⟨N - 1, by omega⟩
    have ei : i = n := by omega
    subst ei
    rw [b_X9_law_70, h4, if_pos (Int32.le_refl _), if_neg (by decide)]
    refine ⟨_, rfl, fr_up rfl (fr_up rfl (fr_up rfl fr_rf)), fun j hj' => ?_, ?_, ?_, ?_⟩
    · show q_up (q_up (q_up M'.1 48 5 (nI i)) 48 8 1) 48 4 0 55 j = _
      simp (disch := omega) only [q_up_s, q_up_a, q_up_k, q_uc_a, q_uc_s]
      exact hj j hj'
    · show q_up (q_up (q_up M'.1 48 5 (nI i)) 48 8 1) 48 4 0 48 5 = _
      simp (disch := omega) only [q_up_s, q_up_a, q_up_k, q_uc_a, q_uc_s]
    · show q_up (q_up (q_up M'.1 48 5 (nI i)) 48 8 1) 48 4 0 48 8 = _
      simp (disch := omega) only [q_up_s, q_up_a, q_up_k, q_uc_a, q_uc_s]
    · show q_up (q_up (q_up M'.1 48 5 (nI i)) 48 8 1) 48 4 0 48 4 = _
      simp (disch := omega) only [q_up_s, q_up_a, q_up_k, q_uc_a, q_uc_s]
  | succ k ih =>
    intro i N M' hi hN h4 hj
    obtain ⟨N, rfl⟩ : ∃ N', N = N' + 1 := ⟨N - 1, by omega⟩
    have i1 : ¬ (nI i < 0 ∨ 120 ≤ (nI i).toNatClampNeg) := nI_in (by omega) (by decide)
    rw [b_X9_law_70, h4, if_neg (nI_ge (by omega) (by omega)), if_neg i1, if_neg i1, nI_1, nI_clamp (by omega)]
    obtain ⟨M2, g1, g2, g3, g4, g5, g6⟩ := ih (i + 1) N (q_up M'.1 55 i (M'.1 54 i), M'.2) (by omega) (by omega) (by show q_up M'.1 55 i (M'.1 54 i) 48 4 = _; rw [q_up_a _ _ _ _ (by decide)]; exact h4) (fun j hj' => by
      show q_up M'.1 55 i (M'.1 54 i) 55 j = q_up M'.1 55 i (M'.1 54 i) 54 j
      rw [show q_up M'.1 55 i (M'.1 54 i) 54 j = M'.1 54 j from q_up_a _ _ _ _ (by decide)]
      by_cases e : j = i
      · rw [e, q_up_s]
      · rw [q_up_k _ _ _ _ e]
        exact hj j (by omega))
    refine ⟨M2, g1, fr_tr (fr_up rfl fr_rf) g2, fun j hj' => (g3 j hj').trans ?_, g4, g5, g6⟩
    show q_up M'.1 55 i (M'.1 54 i) 54 j = _
    rw [q_up_a _ _ _ _ (by decide)]
end RREAD
