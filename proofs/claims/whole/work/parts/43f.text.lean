/-! TEXTS (wip/whole/f): what a text is, its code, what it gives -/
abbrev PR : Type := Bool × Nat × List Int32 × QEnv
def t_at (t : Nat → Int32) (n p : Nat) : Int32 := if p < n then t p else -1
abbrev t_dig (c : Int32) : Prop := ¬ c < 48 ∧ ¬ 57 < c
abbrev t_nam (c : Int32) : Prop := c = 97 ∨ c = 98 ∨ c = 99 ∨ c = 114 ∨ c = 103 ∨ c = 109
def t_bel : Nat → Int32 → Bool
  | 0, c => c == 124
  | 1, c => c == 38
  | 2, c => c == 60 || c == 61 || c == 62
  | 3, c => c == 43 || c == 45
  | 4, c => c == 42 || c == 47 || c == 37
  | _, _ => false
def t_num (ch : Nat → Int32) : Nat → Nat → Int32 → Nat × Int32
  | 0, p, v => (p, v)
  | k + 1, p, v => if t_dig (ch p) then t_num ch k (p + 1) (v * 10 + ch p - 48) else (p, v)
def t_env (x : Int32) : QEnv := fun a b c r g m => if x = 97 then a else if x = 98 then b else if x = 99 then c else if x = 114 then r else if x = 103 then g else m
def t_un (x : Int32) (q : PR) : PR := (q.1, q.2.1, q.2.2.1 ++ [if x = 33 then -33 else -126], fun a b c r g m => if x = 33 then (if q.2.2.2 a b c r g m = 0 then 1 else 0) else -(q.2.2.2 a b c r g m))
def t_bn (x : Int32) (r q : PR) : PR := (q.1, q.2.1, r.2.2.1 ++ q.2.2.1 ++ [-x], fun a b c r' g m => l_join x (r.2.2.2 a b c r' g m) (q.2.2.2 a b c r' g m))
def t_cl (ch : Nat → Int32) (q : PR) : PR := if q.1 = true ∧ ch q.2.1 = 41 then (true, q.2.1 + 1, q.2.2.1, q.2.2.2) else (false, q.2.1, q.2.2.1, q.2.2.2)
def t_lp (ch : Nat → Int32) (nx : Nat → PR) (l : Nat) : Nat → PR → PR
  | 0, r => r
  | f + 1, r => if r.1 = true ∧ t_bel l (ch r.2.1) = true then t_lp ch nx l f (t_bn (ch r.2.1) r (nx (r.2.1 + 1))) else r
def t_ps (ch : Nat → Int32) : Nat → Nat → Nat → Nat → PR
  | 0, _, _, p => (false, p, [], fun _ _ _ _ _ _ => 0)
  | k + 1, l, o, p =>
    if l < 5 then t_lp ch (fun p' => t_ps ch k (l + 1) o p') l (if l = 2 then 1 else 120) (t_ps ch k (l + 1) o p)
    else if t_dig (ch p) then (true, (t_num ch 4 p 0).1, [(t_num ch 4 p 0).2], fun _ _ _ _ _ _ => (t_num ch 4 p 0).2)
    else if t_nam (ch p) then (true, p + 1, [-(ch p)], t_env (ch p))
    else if o < 6 ∧ (ch p = 33 ∨ ch p = 45) then t_un (ch p) (t_ps ch k 5 (o + 1) (p + 1))
    else if o < 6 ∧ ch p = 40 then t_cl ch (t_ps ch k 0 (o + 1) (p + 1))
    else (false, p, [], fun _ _ _ _ _ _ => 0)
/-- a line, by what the lines behind it give -/
abbrev PL : Type := Bool × Nat × List Int32 × (Int32 → QEnv)
def t_ln (ch : Nat → Int32) (K p : Nat) : PL :=
  if (t_ps ch K 0 0 p).1 = true ∧ ch (t_ps ch K 0 0 p).2.1 = 63 then
    ((t_ps ch K 0 0 ((t_ps ch K 0 0 p).2.1 + 1)).1, (t_ps ch K 0 0 ((t_ps ch K 0 0 p).2.1 + 1)).2.1, (t_ps ch K 0 0 p).2.2.1 ++ [-63] ++ (t_ps ch K 0 0 ((t_ps ch K 0 0 p).2.1 + 1)).2.2.1 ++ [-59], fun y a b c r g m => if (t_ps ch K 0 0 p).2.2.2 a b c r g m = 0 then y else (t_ps ch K 0 0 ((t_ps ch K 0 0 p).2.1 + 1)).2.2.2 a b c r g m)
  else ((t_ps ch K 0 0 p).1, (t_ps ch K 0 0 p).2.1, (t_ps ch K 0 0 p).2.2.1 ++ [-59], fun _ => (t_ps ch K 0 0 p).2.2.2)
def t_tx (ch : Nat → Int32) (K : Nat) : Nat → Nat → PR
  | 0, p => (false, p, [], fun _ _ _ _ _ _ => 0)
  | k + 1, p => if (t_ln ch K p).1 = true ∧ ch (t_ln ch K p).2.1 = 59 then
      ((t_tx ch K k ((t_ln ch K p).2.1 + 1)).1, (t_tx ch K k ((t_ln ch K p).2.1 + 1)).2.1, (t_ln ch K p).2.2.1 ++ (t_tx ch K k ((t_ln ch K p).2.1 + 1)).2.2.1, fun a b c r g m => (t_ln ch K p).2.2.2 ((t_tx ch K k ((t_ln ch K p).2.1 + 1)).2.2.2 a b c r g m) a b c r g m)
    else ((t_ln ch K p).1, (t_ln ch K p).2.1, (t_ln ch K p).2.2.1, fun a b c r g m => (t_ln ch K p).2.2.2 0 a b c r g m)
/-! where it ends, how long the code is -/
theorem t_at_lt {t : Nat → Int32} {n p : Nat} (h : t_at t n p ≠ -1) : p < n := by
  unfold t_at at h
  split at h
  · assumption
  · exact absurd rfl h
theorem t_dig_m1 : ¬ t_dig (-1) := by decide
theorem t_dig_lt {t : Nat → Int32} {n p : Nat} (h : t_dig (t_at t n p)) : p < n := t_at_lt (fun e => by rw [e] at h; exact t_dig_m1 h)
theorem t_bel_c {l : Nat} {c : Int32} (h : t_bel l c = true) : c = 124 ∨ c = 38 ∨ c = 60 ∨ c = 61 ∨ c = 62 ∨ c = 43 ∨ c = 45 ∨ c = 42 ∨ c = 47 ∨ c = 37 := by
  unfold t_bel at h
  split at h <;> (try simp only [Bool.or_eq_true, beq_iff_eq] at h)
  · exact Or.inl h
  · exact Or.inr (Or.inl h)
  · rcases h with (h | h) | h <;> subst h <;> decide
  · rcases h with h | h <;> subst h <;> decide
  · rcases h with (h | h) | h <;> subst h <;> decide
  · exact absurd h (by decide)
theorem t_bel_ne {l : Nat} {c : Int32} (h : t_bel l c = true) : c ≠ -1 ∧ -c ≠ -59 ∧ -c ≠ -63 ∧ -c < 0 ∧ ¬ t_dig c := by
  rcases t_bel_c h with rfl | rfl | rfl | rfl | rfl | rfl | rfl | rfl | rfl | rfl <;> decide
theorem t_num_B {t : Nat → Int32} {n : Nat} : ∀ (k p : Nat) (v : Int32), p ≤ n → p ≤ (t_num (t_at t n) k p v).1 ∧ (t_num (t_at t n) k p v).1 ≤ n := by
  intro k
  induction k with
  | zero => intro p v hp; exact ⟨Nat.le_refl _, hp⟩
  | succ k ih =>
    intro p v hp
    rw [t_num]
    split
    · rename_i h
      have := t_dig_lt h
      have := ih (p + 1) (v * 10 + t_at t n p - 48) (by omega)
      omega
    · exact ⟨Nat.le_refl _, hp⟩
def t_bd : Nat → Int
  | 0 => 10000
  | 1 => 1000
  | 2 => 100
  | 3 => 10
  | _ => 1
theorem t_bd_s {k : Nat} (h : k < 4) : t_bd (k + 1) * 10 ≤ t_bd k ∧ t_bd k ≤ 10000 := by
  have : k = 0 ∨ k = 1 ∨ k = 2 ∨ k = 3 := by omega
  rcases this with rfl | rfl | rfl | rfl <;> decide
theorem t_num_v {ch : Nat → Int32} : ∀ (k p : Nat) (v : Int32), k ≤ 4 → 0 ≤ v.toInt → v.toInt < t_bd k → 0 ≤ (t_num ch k p v).2.toInt := by
  intro k
  induction k with
  | zero => intro p v _ h1 h2; exact h1
  | succ k ih =>
    intro p v hk h1 h2
    rw [t_num]
    split
    · rename_i h
      obtain ⟨d1, d2⟩ := h
      rw [Int32.lt_iff_toInt_lt, show (48 : Int32).toInt = 48 by decide] at d1
      rw [Int32.lt_iff_toInt_lt, show (57 : Int32).toInt = 57 by decide] at d2
      obtain ⟨b1, b2⟩ := t_bd_s (k := k) (by omega)
      have e : (v * 10 + ch p - 48).toInt = v.toInt * 10 + (ch p).toInt - 48 := by
        have e1 : (v * 10).toInt = v.toInt * 10 := tI_mul (by rw [qv_10]; omega) (by rw [qv_10]; omega)
        have e2 : (v * 10 + ch p).toInt = v.toInt * 10 + (ch p).toInt := by
          rw [tI_add (by rw [e1]; omega) (by rw [e1]; omega), e1]
        rw [tI_sub (by rw [e2, show (48 : Int32).toInt = 48 by decide]; omega) (by rw [e2, show (48 : Int32).toInt = 48 by decide]; omega), e2, show (48 : Int32).toInt = 48 by decide]
      exact ih (p + 1) _ (by omega) (by rw [e]; omega) (by rw [e]; omega)
    · exact h1
theorem t_num_0 {ch : Nat → Int32} {p : Nat} : ¬ (t_num ch 4 p 0).2 < 0 := by
  rw [Int32.lt_iff_toInt_lt, qv_0]
  have := t_num_v (ch := ch) 4 p 0 (by decide) (by decide) (by decide)
  omega
def t_B (n p : Nat) (q : PR) : Prop := p ≤ q.2.1 ∧ q.2.1 ≤ n ∧ p + q.2.2.1.length ≤ q.2.1 ∧ (q.1 = true → 1 ≤ q.2.2.1.length) ∧ ∀ x ∈ q.2.2.1, x ≠ -59
theorem t_lp_B {t : Nat → Int32} {n p l : Nat} {nx : Nat → PR} (hn : ∀ p, p ≤ n → t_B n p (nx p)) : ∀ (f : Nat) (r : PR), t_B n p r → t_B n p (t_lp (t_at t n) nx l f r) := by
  intro f
  induction f with
  | zero => intro r h; exact h
  | succ f ih =>
    intro r h
    rw [t_lp]
    split
    · rename_i c
      obtain ⟨c1, c2⟩ := c
      have e := t_bel_ne c2
      have lt := t_at_lt e.1
      obtain ⟨g1, g2, g3, g4, g5⟩ := hn (r.2.1 + 1) (by omega)
      obtain ⟨h1, h2, h3, h4, h5⟩ := h
      apply ih
      refine ⟨?_, ?_, ?_, ?_, ?_⟩
      · show p ≤ (nx (r.2.1 + 1)).2.1
        omega
      · exact g2
      · show p + (r.2.2.1 ++ (nx (r.2.1 + 1)).2.2.1 ++ [-(t_at t n r.2.1)]).length ≤ (nx (r.2.1 + 1)).2.1
        simp only [List.length_append, List.length_cons, List.length_nil]
        omega
      · intro _
        show 1 ≤ (r.2.2.1 ++ (nx (r.2.1 + 1)).2.2.1 ++ [-(t_at t n r.2.1)]).length
        simp only [List.length_append, List.length_cons, List.length_nil]
        omega
      · intro x hx
        have hx' : x ∈ r.2.2.1 ++ (nx (r.2.1 + 1)).2.2.1 ++ [-(t_at t n r.2.1)] := hx
        simp only [List.mem_append, List.mem_singleton] at hx'
        rcases hx' with (q | q) | q
        · exact h5 x q
        · exact g5 x q
        · rw [q]; exact e.2.1
    · exact h
theorem t_nam_ne {c : Int32} (h : t_nam c) : c ≠ -1 ∧ -c ≠ -59 ∧ -c ≠ -63 ∧ -c < 0 ∧ c ≠ 33 ∧ c ≠ 45 ∧ c ≠ 40 ∧ ¬ t_dig c ∧ ¬ (c < 0 ∨ 128 ≤ c.toNatClampNeg) := by
  rcases h with rfl | rfl | rfl | rfl | rfl | rfl <;> decide
theorem t_ps_B {t : Nat → Int32} {n : Nat} : ∀ (k l o p : Nat), p ≤ n → t_B n p (t_ps (t_at t n) k l o p) := by
  intro k
  induction k with
  | zero => intro l o p hp; exact ⟨Nat.le_refl _, hp, Nat.le_refl _, fun h => absurd h Bool.false_ne_true, fun x hx => by cases hx⟩
  | succ k ih =>
    intro l o p hp
    rw [t_ps]
    split
    · exact t_lp_B (fun p hp => ih _ _ p hp) _ _ (ih _ _ p hp)
    split
    · rename_i c
      have h1 := t_dig_lt c
      have h2 := t_num_B (t := t) (n := n) 3 (p + 1) (0 * 10 + t_at t n p - 48) (by omega)
      have h3 : t_num (t_at t n) 4 p 0 = t_num (t_at t n) 3 (p + 1) (0 * 10 + t_at t n p - 48) := by rw [t_num, if_pos c]
      have h4 : ¬ (t_num (t_at t n) 4 p 0).2 < 0 := t_num_0
      refine ⟨?_, ?_, ?_, fun _ => Nat.le_refl _, fun x hx => ?_⟩
      · show p ≤ (t_num (t_at t n) 4 p 0).1
        rw [h3]; omega
      · show (t_num (t_at t n) 4 p 0).1 ≤ n
        rw [h3]; omega
      · show p + 1 ≤ (t_num (t_at t n) 4 p 0).1
        rw [h3]; omega
      · have hx' : x ∈ [(t_num (t_at t n) 4 p 0).2] := hx
        rw [List.mem_singleton] at hx'
        rw [hx']
        intro e
        rw [e] at h4
        exact h4 (by decide)
    split
    · rename_i c
      have e := t_nam_ne c
      have h1 := t_at_lt e.1
      refine ⟨Nat.le_succ _, h1, Nat.le_refl _, fun _ => Nat.le_refl _, fun x hx => ?_⟩
      have hx' : x ∈ [-(t_at t n p)] := hx
      rw [List.mem_singleton] at hx'
      rw [hx']
      exact e.2.1
    split
    · rename_i c
      have h1 : p < n := t_at_lt (fun e => by rcases c.2 with q | q <;> rw [e] at q <;> exact absurd q (by decide))
      obtain ⟨g1, g2, g3, g4, g5⟩ := ih 5 (o + 1) (p + 1) h1
      refine ⟨?_, g2, ?_, ?_, ?_⟩
      · show p ≤ (t_ps (t_at t n) k 5 (o + 1) (p + 1)).2.1
        omega
      · show p + ((t_ps (t_at t n) k 5 (o + 1) (p + 1)).2.2.1 ++ [if t_at t n p = 33 then -33 else -126]).length ≤ (t_ps (t_at t n) k 5 (o + 1) (p + 1)).2.1
        simp only [List.length_append, List.length_cons, List.length_nil]
        omega
      · intro _
        show 1 ≤ ((t_ps (t_at t n) k 5 (o + 1) (p + 1)).2.2.1 ++ [if t_at t n p = 33 then -33 else -126]).length
        simp only [List.length_append, List.length_cons, List.length_nil]
        omega
      · intro x hx
        have hx' : x ∈ (t_ps (t_at t n) k 5 (o + 1) (p + 1)).2.2.1 ++ [if t_at t n p = 33 then -33 else -126] := hx
        simp only [List.mem_append, List.mem_singleton] at hx'
        rcases hx' with q | q
        · exact g5 x q
        · rw [q]
          split <;> decide
    split
    · rename_i c
      have h1 : p < n := t_at_lt (fun e => by have q := c.2; rw [e] at q; exact absurd q (by decide))
      obtain ⟨g1, g2, g3, g4, g5⟩ := ih 0 (o + 1) (p + 1) h1
      unfold t_cl
      split
      · rename_i w
        have h2 : (t_ps (t_at t n) k 0 (o + 1) (p + 1)).2.1 < n := t_at_lt (fun e => by have q := w.2; rw [e] at q; exact absurd q (by decide))
        exact ⟨(by omega : p ≤ (t_ps (t_at t n) k 0 (o + 1) (p + 1)).2.1 + 1), h2, (by omega : p + (t_ps (t_at t n) k 0 (o + 1) (p + 1)).2.2.1.length ≤ (t_ps (t_at t n) k 0 (o + 1) (p + 1)).2.1 + 1), fun _ => g4 w.1, g5⟩
      · exact ⟨(by omega : p ≤ (t_ps (t_at t n) k 0 (o + 1) (p + 1)).2.1), g2, (by omega : p + (t_ps (t_at t n) k 0 (o + 1) (p + 1)).2.2.1.length ≤ (t_ps (t_at t n) k 0 (o + 1) (p + 1)).2.1), fun h => absurd h Bool.false_ne_true, g5⟩
    · exact ⟨Nat.le_refl _, hp, Nat.le_refl _, fun h => absurd h Bool.false_ne_true, fun x hx => by cases hx⟩
/-! the code worked out -/
def t_seg (cd : Nat → Int32) : Nat → List Int32 → Prop
  | _, [] => True
  | i, x :: s => cd i = x ∧ t_seg cd (i + 1) s
theorem t_seg_app {cd : Nat → Int32} : ∀ (u v : List Int32) (i : Nat), t_seg cd i (u ++ v) ↔ t_seg cd i u ∧ t_seg cd (i + u.length) v := by
  intro u
  induction u with
  | nil => intro v i; simp [t_seg]
  | cons x u ih =>
    intro v i
    rw [List.cons_append, t_seg, t_seg, ih, List.length_cons, and_assoc, show i + 1 + u.length = i + (u.length + 1) by omega]
section TRUN
variable {cd : Nat → Int32} {sz : Nat} {a b c r g m : Int32} {F i : Nat} {st : List Int32}
theorem r_num (h1 : i < sz) (h2 : sz ≤ 121) (h : ¬ cd i < 0) : l_run cd sz a b c r g m (F + 1) i false st = l_run cd sz a b c r g m F (i + 1) false (l_push (cd i) st) := by
  rw [l_run, if_neg (by omega), if_neg (by omega), if_neg (by decide), if_neg h]
theorem r_op (h1 : i < sz) (h2 : sz ≤ 121) (h : cd i < 0) (h3 : cd i ≠ -59) (h4 : cd i ≠ -63) : l_run cd sz a b c r g m (F + 1) i false st = l_run cd sz a b c r g m F (i + 1) false (l_work (-(cd i)) a b c r g m st) := by
  rw [l_run, if_neg (by omega), if_neg (by omega), if_neg (by decide), if_pos h, if_neg h3, if_neg h4]
theorem r_q (h1 : i < sz) (h2 : sz ≤ 121) (h : cd i = -63) : l_run cd sz a b c r g m (F + 1) i false st = l_run cd sz a b c r g m F (i + 1) (l_pop st == 0) st.tail := by
  rw [l_run, if_neg (by omega), if_neg (by omega), if_neg (by decide), h, if_pos (by decide), if_neg (by decide), if_pos rfl]
theorem r_end (h1 : i < sz) (h2 : sz ≤ 121) (h : cd i = -59) : l_run cd sz a b c r g m (F + 1) i false st = l_pop st := by
  rw [l_run, if_neg (by omega), if_neg (by omega), if_neg (by decide), h, if_pos (by decide), if_pos rfl]
theorem r_sk (h1 : i < sz) (h2 : sz ≤ 121) (h : cd i ≠ -59) : l_run cd sz a b c r g m (F + 1) i true st = l_run cd sz a b c r g m F (i + 1) true st := by
  rw [l_run, if_neg (by omega), if_neg (by omega), if_pos rfl]
  have : (cd i == -59) = false := by rw [beq_eq_false_iff_ne]; exact h
  rw [this]
  rfl
theorem r_ske (h1 : i < sz) (h2 : sz ≤ 121) (h : cd i = -59) : l_run cd sz a b c r g m (F + 1) i true st = l_run cd sz a b c r g m F (i + 1) false st := by
  rw [l_run, if_neg (by omega), if_neg (by omega), if_pos rfl, h]
  rfl
theorem r_skip (h2 : sz ≤ 121) : ∀ (s : List Int32) (i : Nat), t_seg cd i s → i + s.length ≤ sz → (∀ x ∈ s, x ≠ -59) → l_run cd sz a b c r g m (F + s.length) i true st = l_run cd sz a b c r g m F (i + s.length) true st := by
  intro s
  induction s with
  | nil => intro i _ _ _; rfl
  | cons x s ih =>
    intro i hs hl hx
    rw [List.length_cons] at hl ⊢
    rw [show F + (s.length + 1) = F + s.length + 1 by omega, r_sk (by omega) h2 (by rw [hs.1]; exact hx x (List.mem_cons_self ..)), ih (i + 1) hs.2 (by omega) (fun y hy => hx y (List.mem_cons_of_mem _ hy)), show i + 1 + s.length = i + (s.length + 1) by omega]
theorem r_push {v : Int32} (h1 : i < sz) (h2 : sz ≤ 121) (hst : st.length ≤ i) : l_push v st = v :: st := by
  rw [l_push, if_pos (by omega)]
theorem r_nam {x : Int32} (h : t_nam x) (h1 : i < sz) (h2 : sz ≤ 121) (hst : st.length ≤ i) : l_work (- -x) a b c r g m st = t_env x a b c r g m :: st := by
  rcases h with rfl | rfl | rfl | rfl | rfl | rfl <;> exact r_push h1 h2 hst
theorem r_un {x v : Int32} (h : x = 33 ∨ x = 45) (h1 : i < sz) (h2 : sz ≤ 121) (hst : st.length ≤ i) : l_work (-(if x = 33 then -33 else -126)) a b c r g m (v :: st) = (if x = 33 then (if v = 0 then 1 else 0) else -v) :: st := by
  rcases h with rfl | rfl <;> exact r_push h1 h2 hst
theorem r_bn {l : Nat} {x v w : Int32} (h : t_bel l x = true) (h1 : i < sz) (h2 : sz ≤ 121) (hst : st.length ≤ i) : l_work (- -x) a b c r g m (w :: v :: st) = l_join x v w :: st := by
  rcases t_bel_c h with rfl | rfl | rfl | rfl | rfl | rfl | rfl | rfl | rfl | rfl <;> exact r_push h1 h2 hst
end TRUN
/-- q's code, wherever it stands, lays what q gives on the stack -/
def t_X (q : PR) : Prop := ∀ (cd : Nat → Int32) (sz F i : Nat) (a b c r g m : Int32) (st : List Int32), t_seg cd i q.2.2.1 → i + q.2.2.1.length ≤ sz → sz ≤ 121 → st.length ≤ i → l_run cd sz a b c r g m (F + q.2.2.1.length) i false st = l_run cd sz a b c r g m F (i + q.2.2.1.length) false (q.2.2.2 a b c r g m :: st)
theorem t_bn_X {l : Nat} {x : Int32} {u v : PR} (hx : t_bel l x = true) (hu : t_X u) (hv : t_X v) (h1 : 1 ≤ u.2.2.1.length) : t_X (t_bn x u v) := by
  intro cd sz F i a b c r g m st hs hl hz hst
  have hs' : t_seg cd i (u.2.2.1 ++ v.2.2.1 ++ [-x]) := hs
  have el : (t_bn x u v).2.2.1.length = u.2.2.1.length + v.2.2.1.length + 1 := by
    show (u.2.2.1 ++ v.2.2.1 ++ [-x]).length = _
    simp only [List.length_append, List.length_cons, List.length_nil]
  rw [t_seg_app, t_seg_app, List.length_append] at hs'
  obtain ⟨⟨s1, s2⟩, s3, _⟩ := hs'
  rw [el] at hl ⊢
  have e := t_bel_ne hx
  rw [show F + (u.2.2.1.length + v.2.2.1.length + 1) = F + 1 + v.2.2.1.length + u.2.2.1.length by omega, hu cd sz _ i a b c r g m st s1 (by omega) hz hst, hv cd sz _ _ a b c r g m _ s2 (by omega) hz (by rw [List.length_cons]; omega)]
  have s3' : cd (i + u.2.2.1.length + v.2.2.1.length) = -x := by rw [← s3]; congr 1; omega
  rw [r_op (by omega) hz (by rw [s3']; exact e.2.2.2.1) (by rw [s3']; exact e.2.1) (by rw [s3']; exact e.2.2.1), s3', r_bn (i := i) (sz := sz) hx (by omega) hz hst, show i + (u.2.2.1.length + v.2.2.1.length + 1) = i + u.2.2.1.length + v.2.2.1.length + 1 by omega]
  rfl
theorem t_lp_X {t : Nat → Int32} {n l p : Nat} {nx : Nat → PR} (hn : ∀ p, p ≤ n → t_B n p (nx p)) (hX : ∀ p, p ≤ n → (nx p).1 = true → t_X (nx p)) : ∀ (f : Nat) (r : PR), t_B n p r → (r.1 = true → t_X r) → (t_lp (t_at t n) nx l f r).1 = true → t_X (t_lp (t_at t n) nx l f r) := by
  intro f
  induction f with
  | zero => intro r _ h2 h3; exact h2 h3
  | succ f ih =>
    intro r hB hr
    rw [t_lp]
    split
    · rename_i c
      obtain ⟨c1, c2⟩ := c
      have e := t_bel_ne c2
      have lt := t_at_lt e.1
      have hB' : t_B n p (t_lp (t_at t n) nx l 1 r) := t_lp_B hn 1 r hB
      rw [t_lp, if_pos ⟨c1, c2⟩] at hB'
      exact ih _ hB' (fun h => t_bn_X c2 (hr c1) (hX _ (by omega) h) (hB.2.2.2.1 c1))
    · exact hr
theorem t_ps_X {t : Nat → Int32} {n : Nat} : ∀ (k l o p : Nat), p ≤ n → (t_ps (t_at t n) k l o p).1 = true → t_X (t_ps (t_at t n) k l o p) := by
  intro k
  induction k with
  | zero => intro l o p hp h; exact absurd h Bool.false_ne_true
  | succ k ih =>
    intro l o p hp
    rw [t_ps]
    split
    · exact fun h => t_lp_X (fun p hp => t_ps_B k _ _ p hp) (fun p hp => ih _ _ p hp) _ _ (t_ps_B k _ _ p hp) (ih _ _ p hp) h
    split
    · intro _ cd sz F i a b c r g m st hs hl hz hst
      have hs' : t_seg cd i [(t_num (t_at t n) 4 p 0).2] := hs
      have hl' : i + 1 ≤ sz := hl
      show l_run cd sz a b c r g m (F + 1) i false st = l_run cd sz a b c r g m F (i + 1) false ((t_num (t_at t n) 4 p 0).2 :: st)
      rw [r_num (by omega) hz (by rw [hs'.1]; exact t_num_0), r_push (i := i) (sz := sz) (by omega) hz hst, hs'.1]
    split
    · rename_i q
      intro _ cd sz F i a b c r g m st hs hl hz hst
      have hs' : t_seg cd i [-(t_at t n p)] := hs
      have hl' : i + 1 ≤ sz := hl
      have e := t_nam_ne q
      show l_run cd sz a b c r g m (F + 1) i false st = l_run cd sz a b c r g m F (i + 1) false (t_env (t_at t n p) a b c r g m :: st)
      rw [r_op (by omega) hz (by rw [hs'.1]; exact e.2.2.2.1) (by rw [hs'.1]; exact e.2.1) (by rw [hs'.1]; exact e.2.2.1), hs'.1, r_nam (i := i) (sz := sz) q (by omega) hz hst]
    split
    · rename_i q
      have h1 : p < n := t_at_lt (fun e => by rcases q.2 with w | w <;> rw [e] at w <;> exact absurd w (by decide))
      intro h cd sz F i a b c r g m st hs hl hz hst
      have hX := ih 5 (o + 1) (p + 1) h1 h
      have hB := t_ps_B (t := t) (n := n) k 5 (o + 1) (p + 1) h1
      generalize t_ps (t_at t n) k 5 (o + 1) (p + 1) = w at h hX hB hs hl ⊢
      have hs' : t_seg cd i (w.2.2.1 ++ [if t_at t n p = 33 then -33 else -126]) := hs
      have el : (t_un (t_at t n p) w).2.2.1.length = w.2.2.1.length + 1 := by
        show (w.2.2.1 ++ [if t_at t n p = 33 then -33 else -126]).length = _
        simp only [List.length_append, List.length_cons, List.length_nil]
      rw [t_seg_app] at hs'
      rw [el] at hl ⊢
      obtain ⟨s1, s2, _⟩ := hs'
      rw [show F + (w.2.2.1.length + 1) = F + 1 + w.2.2.1.length by omega, hX cd sz _ i a b c r g m st s1 (by omega) hz hst]
      have n1 : (if t_at t n p = 33 then (-33 : Int32) else -126) < 0 := by split <;> decide
      have n2 : (if t_at t n p = 33 then (-33 : Int32) else -126) ≠ -59 := by split <;> decide
      have n3 : (if t_at t n p = 33 then (-33 : Int32) else -126) ≠ -63 := by split <;> decide
      rw [r_op (by omega) hz (by rw [s2]; exact n1) (by rw [s2]; exact n2) (by rw [s2]; exact n3), s2, r_un (i := i) (sz := sz) q.2 (by omega) hz hst]
      rfl
    split
    · rename_i q
      have h1 : p < n := t_at_lt (fun e => by have w := q.2; rw [e] at w; exact absurd w (by decide))
      unfold t_cl
      split
      · rename_i w
        intro _
        exact ih 0 (o + 1) (p + 1) h1 w.1
      · intro h; exact absurd h Bool.false_ne_true
    · intro h; exact absurd h Bool.false_ne_true
/-- a line's code: it gives, or goes on with nothing on the stack -/
def t_LB (n p : Nat) (q : PL) : Prop := p ≤ q.2.1 ∧ q.2.1 ≤ n ∧ p + q.2.2.1.length ≤ q.2.1 + 1
theorem t_ln_B {t : Nat → Int32} {n K p : Nat} (hp : p ≤ n) : t_LB n p (t_ln (t_at t n) K p) := by
  unfold t_ln
  obtain ⟨g1, g2, g3, g4, g5⟩ := t_ps_B (t := t) K 0 0 p hp
  split
  · rename_i c
    have h1 : (t_ps (t_at t n) K 0 0 p).2.1 < n := t_at_lt (fun e => by have w := c.2; rw [e] at w; exact absurd w (by decide))
    obtain ⟨k1, k2, k3, k4, k5⟩ := t_ps_B (t := t) K 0 0 ((t_ps (t_at t n) K 0 0 p).2.1 + 1) h1
    refine ⟨?_, k2, ?_⟩
    · show p ≤ (t_ps (t_at t n) K 0 0 ((t_ps (t_at t n) K 0 0 p).2.1 + 1)).2.1
      omega
    · show p + ((t_ps (t_at t n) K 0 0 p).2.2.1 ++ [-63] ++ (t_ps (t_at t n) K 0 0 ((t_ps (t_at t n) K 0 0 p).2.1 + 1)).2.2.1 ++ [-59]).length ≤ (t_ps (t_at t n) K 0 0 ((t_ps (t_at t n) K 0 0 p).2.1 + 1)).2.1 + 1
      simp only [List.length_append, List.length_cons, List.length_nil]
      omega
  · refine ⟨g1, g2, ?_⟩
    show p + ((t_ps (t_at t n) K 0 0 p).2.2.1 ++ [-59]).length ≤ (t_ps (t_at t n) K 0 0 p).2.1 + 1
    simp only [List.length_append, List.length_cons, List.length_nil]
    omega
theorem t_tx_B {t : Nat → Int32} {n K : Nat} : ∀ (k p : Nat), p ≤ n → p ≤ (t_tx (t_at t n) K k p).2.1 ∧ (t_tx (t_at t n) K k p).2.1 ≤ n ∧ p + (t_tx (t_at t n) K k p).2.2.1.length ≤ (t_tx (t_at t n) K k p).2.1 + 1 := by
  intro k
  induction k with
  | zero => intro p hp; exact ⟨Nat.le_refl _, hp, by show p + 0 ≤ p + 1; omega⟩
  | succ k ih =>
    intro p hp
    obtain ⟨g1, g2, g3⟩ := t_ln_B (t := t) (K := K) hp
    rw [t_tx]
    split
    · rename_i c
      have h1 : (t_ln (t_at t n) K p).2.1 < n := t_at_lt (fun e => by have w := c.2; rw [e] at w; exact absurd w (by decide))
      obtain ⟨k1, k2, k3⟩ := ih ((t_ln (t_at t n) K p).2.1 + 1) h1
      refine ⟨?_, k2, ?_⟩
      · show p ≤ (t_tx (t_at t n) K k ((t_ln (t_at t n) K p).2.1 + 1)).2.1
        omega
      · show p + ((t_ln (t_at t n) K p).2.2.1 ++ (t_tx (t_at t n) K k ((t_ln (t_at t n) K p).2.1 + 1)).2.2.1).length ≤ (t_tx (t_at t n) K k ((t_ln (t_at t n) K p).2.1 + 1)).2.1 + 1
        rw [List.length_append]
        omega
    · exact ⟨g1, g2, g3⟩
theorem t_ln_X {t : Nat → Int32} {n K p : Nat} (hp : p ≤ n) (hk : (t_ln (t_at t n) K p).1 = true) (cd : Nat → Int32) (sz F i : Nat) (a b c r g m y : Int32) (hs : t_seg cd i (t_ln (t_at t n) K p).2.2.1) (hl : i + (t_ln (t_at t n) K p).2.2.1.length ≤ sz) (hz : sz ≤ 121) (hy : l_run cd sz a b c r g m F (i + (t_ln (t_at t n) K p).2.2.1.length) false [] = y) : l_run cd sz a b c r g m (F + (t_ln (t_at t n) K p).2.2.1.length) i false [] = (t_ln (t_at t n) K p).2.2.2 y a b c r g m := by
  subst hy
  unfold t_ln at hk hs hl ⊢
  have hB1 := t_ps_B (t := t) K 0 0 p hp
  have hX1 := t_ps_X (t := t) K 0 0 p hp
  generalize t_ps (t_at t n) K 0 0 p = q at *
  by_cases w : q.1 = true ∧ t_at t n q.2.1 = 63
  · rw [if_pos w] at hk hs hl ⊢
    have h1 : q.2.1 < n := t_at_lt (fun e => by have w := w.2; rw [e] at w; exact absurd w (by decide))
    have hB2 := t_ps_B (t := t) K 0 0 (q.2.1 + 1) h1
    have hX2 := t_ps_X (t := t) K 0 0 (q.2.1 + 1) h1
    generalize t_ps (t_at t n) K 0 0 (q.2.1 + 1) = u at *
    have hX2' := hX2 hk
    have hX1' := hX1 w.1
    have hs' : t_seg cd i (q.2.2.1 ++ [-63] ++ u.2.2.1 ++ [-59]) := hs
    have el : (q.2.2.1 ++ [-63] ++ u.2.2.1 ++ [-59]).length = q.2.2.1.length + 1 + u.2.2.1.length + 1 := by
      simp only [List.length_append, List.length_cons, List.length_nil]
    have hl' : i + (q.2.2.1 ++ [-63] ++ u.2.2.1 ++ [-59]).length ≤ sz := hl
    show l_run cd sz a b c r g m (F + (q.2.2.1 ++ [-63] ++ u.2.2.1 ++ [-59]).length) i false [] = if q.2.2.2 a b c r g m = 0 then l_run cd sz a b c r g m F (i + (q.2.2.1 ++ [-63] ++ u.2.2.1 ++ [-59]).length) false [] else u.2.2.2 a b c r g m
    rw [el] at hl' ⊢
    rw [t_seg_app, t_seg_app, t_seg_app] at hs'
    obtain ⟨⟨⟨s1, s2, _⟩, s3⟩, s4, _⟩ := hs'
    simp only [List.length_append, List.length_cons, List.length_nil, Nat.zero_add] at s3 s4
    rw [show F + (q.2.2.1.length + 1 + u.2.2.1.length + 1) = F + 1 + u.2.2.1.length + 1 + q.2.2.1.length by omega, hX1' cd sz _ i a b c r g m [] s1 (by omega) hz (Nat.zero_le _), r_q (by omega) hz s2]
    show l_run cd sz a b c r g m (F + 1 + u.2.2.1.length) (i + q.2.2.1.length + 1) (q.2.2.2 a b c r g m == 0) [] = _
    by_cases z : q.2.2.2 a b c r g m = 0
    · rw [if_pos z, z]
      show l_run cd sz a b c r g m (F + 1 + u.2.2.1.length) (i + q.2.2.1.length + 1) true [] = _
      rw [r_skip hz u.2.2.1 _ (by rw [show i + q.2.2.1.length + 1 = i + (q.2.2.1.length + 1) by omega]; exact s3) (by omega) hB2.2.2.2.2, r_ske (by omega) hz (by rw [← s4]; congr 1; omega)]
      congr 1
      omega
    · rw [if_neg z]
      have zb : (q.2.2.2 a b c r g m == 0) = false := by rw [beq_eq_false_iff_ne]; exact z
      rw [zb, hX2' cd sz _ _ a b c r g m [] (by rw [show i + q.2.2.1.length + 1 = i + (q.2.2.1.length + 1) by omega]; exact s3) (by omega) hz (Nat.zero_le _), r_end (by omega) hz (by rw [← s4]; congr 1; omega)]
      rfl
  · rw [if_neg w] at hk hs hl ⊢
    have hs' : t_seg cd i (q.2.2.1 ++ [-59]) := hs
    have el : (q.2.2.1 ++ [(-59 : Int32)]).length = q.2.2.1.length + 1 := by
      simp only [List.length_append, List.length_cons, List.length_nil]
    have hl' : i + (q.2.2.1 ++ [(-59 : Int32)]).length ≤ sz := hl
    show l_run cd sz a b c r g m (F + (q.2.2.1 ++ [-59]).length) i false [] = q.2.2.2 a b c r g m
    rw [el] at hl' ⊢
    rw [t_seg_app] at hs'
    obtain ⟨s1, s2, _⟩ := hs'
    rw [show F + (q.2.2.1.length + 1) = F + 1 + q.2.2.1.length by omega, hX1 hk cd sz _ i a b c r g m [] s1 (by omega) hz (Nat.zero_le _), r_end (by omega) hz s2]
    rfl
theorem t_tx_X {t : Nat → Int32} {n K : Nat} : ∀ (k p : Nat), p ≤ n → (t_tx (t_at t n) K k p).1 = true → ∀ (cd : Nat → Int32) (sz F i : Nat) (a b c r g m : Int32), t_seg cd i (t_tx (t_at t n) K k p).2.2.1 → i + (t_tx (t_at t n) K k p).2.2.1.length = sz → sz ≤ 121 → l_run cd sz a b c r g m (F + (t_tx (t_at t n) K k p).2.2.1.length) i false [] = (t_tx (t_at t n) K k p).2.2.2 a b c r g m := by
  intro k
  induction k with
  | zero => intro p hp h; exact absurd h Bool.false_ne_true
  | succ k ih =>
    intro p hp
    rw [t_tx]
    split
    · rename_i w
      have h1 : (t_ln (t_at t n) K p).2.1 < n := t_at_lt (fun e => by have w := w.2; rw [e] at w; exact absurd w (by decide))
      intro hk cd sz F i a b c r g m hs hl hz
      have ih' := ih ((t_ln (t_at t n) K p).2.1 + 1) h1 hk cd sz F (i + (t_ln (t_at t n) K p).2.2.1.length) a b c r g m
      have hX := t_ln_X hp w.1 cd sz (F + (t_tx (t_at t n) K k ((t_ln (t_at t n) K p).2.1 + 1)).2.2.1.length) i a b c r g m
      generalize t_tx (t_at t n) K k ((t_ln (t_at t n) K p).2.1 + 1) = u at *
      generalize t_ln (t_at t n) K p = q at *
      have hs' : t_seg cd i (q.2.2.1 ++ u.2.2.1) := hs
      have hl' : i + (q.2.2.1 ++ u.2.2.1).length = sz := hl
      rw [t_seg_app] at hs'
      rw [List.length_append] at hl'
      show l_run cd sz a b c r g m (F + (q.2.2.1 ++ u.2.2.1).length) i false [] = q.2.2.2 (u.2.2.2 a b c r g m) a b c r g m
      rw [List.length_append, show F + (q.2.2.1.length + u.2.2.1.length) = F + u.2.2.1.length + q.2.2.1.length by omega]
      exact hX _ hs'.1 (by omega) hz (ih' hs'.2 (by omega) hz)
    · intro hk cd sz F i a b c r g m hs hl hz
      have hX := t_ln_X hp hk cd sz F i a b c r g m 0 hs (by have hl' : i + (t_ln (t_at t n) K p).2.2.1.length = sz := hl; omega) hz
      refine hX ?_
      have hl' : i + (t_ln (t_at t n) K p).2.2.1.length = sz := hl
      rw [hl']
      cases F with
      | zero => rfl
      | succ F => rw [l_run, if_pos (Nat.le_refl _)]
/-- the law's code and the law's text are of one text -/
def TxR (tx cd : Nat → Int32) (n sz : Nat) : Prop := ∃ K k, K = 42 ∧ k = 121 ∧ n ≤ 120 ∧ (t_tx (t_at tx n) K k 0).1 = true ∧ (t_tx (t_at tx n) K k 0).2.1 = n ∧ sz = (t_tx (t_at tx n) K k 0).2.2.1.length ∧ t_seg cd 0 (t_tx (t_at tx n) K k 0).2.2.1
theorem txr_run {tx cd : Nat → Int32} {n sz K k : Nat} (h1 : n ≤ 120) (h2 : (t_tx (t_at tx n) K k 0).1 = true) (h3 : (t_tx (t_at tx n) K k 0).2.1 = n) (h4 : sz = (t_tx (t_at tx n) K k 0).2.2.1.length) (h5 : t_seg cd 0 (t_tx (t_at tx n) K k 0).2.2.1) (a b c r g m : Int32) : l_run cd sz a b c r g m 122 0 false [] = (t_tx (t_at tx n) K k 0).2.2.2 a b c r g m := by
  have hB := t_tx_B (t := tx) (n := n) (K := K) k 0 (Nat.zero_le _)
  have h := t_tx_X (K := K) k 0 (Nat.zero_le _) h2 cd sz (122 - sz) 0 a b c r g m h5 (by omega) (by omega)
  rw [← h4, show 122 - sz + sz = 122 by omega] at h
  exact h
