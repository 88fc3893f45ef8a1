/-! PURE ROWS (wip/whole/f): numbers, frames, loops, runs of strokes, counts, days -/
theorem qv_0 : (0 : Int32).toInt = 0 := by decide
theorem qv_1 : (1 : Int32).toInt = 1 := by decide
theorem qv_2 : (2 : Int32).toInt = 2 := by decide
theorem qv_3 : (3 : Int32).toInt = 3 := by decide
theorem qv_4 : (4 : Int32).toInt = 4 := by decide
theorem qv_5 : (5 : Int32).toInt = 5 := by decide
theorem qv_6 : (6 : Int32).toInt = 6 := by decide
theorem qv_7 : (7 : Int32).toInt = 7 := by decide
theorem qv_8 : (8 : Int32).toInt = 8 := by decide
theorem qv_9 : (9 : Int32).toInt = 9 := by decide
theorem qv_10 : (10 : Int32).toInt = 10 := by decide
theorem qv_11 : (11 : Int32).toInt = 11 := by decide
theorem qv_12 : (12 : Int32).toInt = 12 := by decide
theorem qv_20 : (20 : Int32).toInt = 20 := by decide
theorem qv_24 : (24 : Int32).toInt = 24 := by decide
theorem qv_39 : (39 : Int32).toInt = 39 := by decide
theorem qv_40 : (40 : Int32).toInt = 40 := by decide
theorem qv_50 : (50 : Int32).toInt = 50 := by decide
theorem qv_53 : (53 : Int32).toInt = 53 := by decide
theorem qv_59 : (59 : Int32).toInt = 59 := by decide
theorem qv_60 : (60 : Int32).toInt = 60 := by decide
theorem qv_61 : (61 : Int32).toInt = 61 := by decide
theorem qv_63 : (63 : Int32).toInt = 63 := by decide
theorem qv_99 : (99 : Int32).toInt = 99 := by decide
theorem qv_100 : (100 : Int32).toInt = 100 := by decide
theorem qv_119 : (119 : Int32).toInt = 119 := by decide
theorem qv_120 : (120 : Int32).toInt = 120 := by decide
theorem qv_121 : (121 : Int32).toInt = 121 := by decide
theorem qv_255 : (255 : Int32).toInt = 255 := by decide
theorem qv_300 : (300 : Int32).toInt = 300 := by decide
theorem qv_301 : (301 : Int32).toInt = 301 := by decide
theorem qv_m1 : (-1 : Int32).toInt = -1 := by decide
theorem qv_m2 : (-2 : Int32).toInt = -2 := by decide
theorem tI_add {x y : Int32} (h1 : -2147483648 ≤ x.toInt + y.toInt) (h2 : x.toInt + y.toInt < 2147483648) : (x + y).toInt = x.toInt + y.toInt := by
  rw [Int32.toInt_add]; exact Int.bmod_eq_of_le (by omega) (by omega)
theorem tI_sub {x y : Int32} (h1 : -2147483648 ≤ x.toInt - y.toInt) (h2 : x.toInt - y.toInt < 2147483648) : (x - y).toInt = x.toInt - y.toInt := by
  rw [Int32.toInt_sub]; exact Int.bmod_eq_of_le (by omega) (by omega)
theorem tI_mul {x y : Int32} (h1 : -2147483648 ≤ x.toInt * y.toInt) (h2 : x.toInt * y.toInt < 2147483648) : (x * y).toInt = x.toInt * y.toInt := by
  rw [Int32.toInt_mul]; exact Int.bmod_eq_of_le (by omega) (by omega)
theorem q_bm {x : Int} (h1 : -2147483648 ≤ x) (h2 : x < 2147483648) : x.bmod (2 ^ 32) = x := Int.bmod_eq_of_le (by omega) (by omega)
theorem q_eqI {x y : Int32} : (x = y) ↔ (x.toInt = y.toInt) := Int32.toInt_inj.symm
theorem q_ofT {x : Int32} {n : Nat} (h : x.toInt = n) : x = nI n := by
  have h1 := x.toInt_lt
  rw [q_eqI, h, nI_toInt (by omega)]
theorem q_ofN {x : Int32} (h : 0 ≤ x.toInt) : x = nI x.toInt.toNat := q_ofT (by omega)
/-! frames -/
def q_key (a k : Nat) : Nat := if a = 17 then 1700 + k else if a = 48 then 4800 + k else if a = 14 then 1400 + k else a
def Fr (l : List Nat) (M M' : QM) : Prop := (∀ a k, l.elem (q_key a k) = false → M'.1 a k = M.1 a k) ∧ (∀ a k, l.elem (200 + a) = false → M'.2 a k = M.2 a k)
theorem fr_rf {l : List Nat} {M : QM} : Fr l M M := ⟨fun _ _ _ => rfl, fun _ _ _ => rfl⟩
theorem fr_tr {l : List Nat} {A B C : QM} (h1 : Fr l A B) (h2 : Fr l B C) : Fr l A C := ⟨fun a k h => (h2.1 a k h).trans (h1.1 a k h), fun a k h => (h2.2 a k h).trans (h1.2 a k h)⟩
theorem fr_sub {l l' : List Nat} (h : l.all (fun x => l'.elem x) = true) {x : Nat} (hx : l'.elem x = false) : l.elem x = false := by
  cases e : l.elem x with
  | false => rfl
  | true =>
    rw [List.all_eq_true] at h
    have := h x (List.elem_iff.mp e)
    rw [hx] at this
    exact absurd this (by decide)
theorem fr_mo {l l' : List Nat} {A B : QM} (h : l.all (fun x => l'.elem x) = true) (h1 : Fr l A B) : Fr l' A B := ⟨fun a k e => h1.1 a k (fr_sub h e), fun a k e => h1.2 a k (fr_sub h e)⟩
theorem fr_t2 {l l1 l2 : List Nat} {A B C : QM} (e1 : l1.all (fun x => l.elem x) = true) (e2 : l2.all (fun x => l.elem x) = true) (h1 : Fr l1 A B) (h2 : Fr l2 B C) : Fr l A C := fr_tr (fr_mo e1 h1) (fr_mo e2 h2)
theorem fr_up {l : List Nat} {M : QM} {h : Nat → Nat → Int32} {g : Nat → Nat → Int64} {a k : Nat} {v : Int32} (e : l.elem (q_key a k) = true) (h1 : Fr l M (h, g)) : Fr l M (q_up h a k v, g) := by
  refine ⟨fun a' k' e' => ?_, h1.2⟩
  have : ¬ (a' = a ∧ k' = k) := by
    rintro ⟨rfl, rfl⟩
    rw [e] at e'
    exact absurd e' (by decide)
  show q_up h a k v a' k' = _
  rw [q_up, if_neg this]
  exact h1.1 a' k' e'
theorem fr_uc {l : List Nat} {M : QM} {h : Nat → Nat → Int32} {g : Nat → Nat → Int64} {a : Nat} {f : Nat → Int32} (e : ∀ k, l.elem (q_key a k) = true) (h1 : Fr l M (h, g)) : Fr l M (q_uc h a f, g) := by
  refine ⟨fun a' k' e' => ?_, h1.2⟩
  have : ¬ (a' = a) := by
    rintro rfl
    rw [e] at e'
    exact absurd e' (by decide)
  show q_uc h a f a' k' = _
  rw [q_uc, if_neg this]
  exact h1.1 a' k' e'
theorem fr_up2 {l : List Nat} {M : QM} {h : Nat → Nat → Int32} {g : Nat → Nat → Int64} {a k : Nat} {v : Int64} (e : l.elem (200 + a) = true) (h1 : Fr l M (h, g)) : Fr l M (h, q_up g a k v) := by
  refine ⟨h1.1, fun a' k' e' => ?_⟩
  have : ¬ (a' = a ∧ k' = k) := by
    rintro ⟨rfl, rfl⟩
    rw [e] at e'
    exact absurd e' (by decide)
  show q_up g a k v a' k' = _
  rw [q_up, if_neg this]
  exact h1.2 a' k' e'
theorem fr_uc2 {l : List Nat} {M : QM} {h : Nat → Nat → Int32} {g : Nat → Nat → Int64} {a : Nat} {f : Nat → Int64} (e : l.elem (200 + a) = true) (h1 : Fr l M (h, g)) : Fr l M (h, q_uc g a f) := by
  refine ⟨h1.1, fun a' k' e' => ?_⟩
  have : ¬ (a' = a) := by
    rintro rfl
    rw [e] at e'
    exact absurd e' (by decide)
  show q_uc g a f a' k' = _
  rw [q_uc, if_neg this]
  exact h1.2 a' k' e'
/-! loops: r grows smaller from cut to cut -/
theorem q_lr {R σ : Type} (F : Nat → σ → QM → Option R) (I : Nat → σ → QM → Prop) (Q : Option R → Prop) (step : ∀ r n s M, I r s M → Q (F (n + 1) s M) ∨ ∃ r' s' M', r' < r ∧ I r' s' M' ∧ F (n + 1) s M = F n s' M') : ∀ r n s M, r < n → I r s M → Q (F n s M) := by
  intro r
  induction r using Nat.strongRecOn with
  | _ r ih =>
    intro n s M hn hI
    cases n with
    | zero => omega
    | succ n =>
      rcases step r n s M hI with h | ⟨r', s', M', h1, h2, h3⟩
      · exact h
      · rw [h3]
        exact ih r' h1 n s' M' (by omega) h2
/-- a loop that counts up to N -/
theorem q_lu {R σ : Type} (F : Nat → Nat → σ → QM → Option R) (N : Nat) (I : Nat → σ → QM → Prop) (Q : Option R → Prop) (step : ∀ n i s M, i < N → I i s M → Q (F (n + 1) i s M) ∨ ∃ s' M', I (i + 1) s' M' ∧ F (n + 1) i s M = F n (i + 1) s' M') (fin : ∀ n s M, I N s M → Q (F (n + 1) N s M)) {i n : Nat} {s : σ} {M : QM} (hi : i ≤ N) (hn : N - i < n) (h : I i s M) : Q (F n i s M) := by
  refine q_lr (fun n (p : Nat × σ) M => F n p.1 p.2 M) (fun r p M => p.1 ≤ N ∧ r = N - p.1 ∧ I p.1 p.2 M) Q (fun r n p M hp => ?_) (N - i) n (i, s) M hn ⟨hi, rfl, h⟩
  obtain ⟨h1, h2, h3⟩ := hp
  rcases Nat.lt_or_eq_of_le h1 with h4 | h4
  · rcases step n p.1 p.2 M h4 h3 with h5 | ⟨s', M', h5, h6⟩
    · exact Or.inl h5
    · exact Or.inr ⟨N - (p.1 + 1), (p.1 + 1, s'), M', by omega, ⟨by simp only; omega, rfl, h5⟩, h6⟩
  · left
    have := fin n p.2 M (by rw [← h4]; exact h3)
    rw [← h4] at this
    exact this
/-! runs of strokes -/
def lr (h : Nat → Int32) : Nat → Nat
  | 0 => 1
  | m + 1 => if h (m + 1) = h m then lr h m + 1 else 1
theorem lr_b (h : Nat → Int32) (m : Nat) : 1 ≤ lr h m ∧ lr h m ≤ m + 1 := by
  induction m with
  | zero => exact ⟨Nat.le_refl _, Nat.le_refl _⟩
  | succ m ih => rw [lr]; split <;> omega
theorem lr_in (h : Nat → Int32) (m : Nat) : ∀ i, i < lr h m → h (m - i) = h m := by
  induction m with
  | zero => intro i _; congr 1; omega
  | succ m ih =>
    intro i hi
    rw [lr] at hi
    by_cases e : h (m + 1) = h m
    · rw [if_pos e] at hi
      cases i with
      | zero => rfl
      | succ i => rw [e, ← ih i (by omega)]; congr 1; omega
    · rw [if_neg e] at hi
      have : i = 0 := by omega
      subst this
      rfl
theorem lr_out (h : Nat → Int32) (m : Nat) : lr h m = m + 1 ∨ h (m - lr h m) ≠ h m := by
  induction m with
  | zero => exact Or.inl rfl
  | succ m ih =>
    rw [lr]
    by_cases e : h (m + 1) = h m
    · rw [if_pos e]
      rcases ih with q | q
      · exact Or.inl (by omega)
      · right
        rw [e]
        have : m + 1 - (lr h m + 1) = m - lr h m := by omega
        rw [this]
        exact q
    · rw [if_neg e]
      right
      intro q
      exact e q.symm
theorem lr_congr {h h' : Nat → Int32} (m : Nat) (e : ∀ j, j ≤ m → h j = h' j) : lr h m = lr h' m := by
  induction m with
  | zero => rfl
  | succ m ih => rw [lr, lr, e (m + 1) (Nat.le_refl _), e m (by omega), ih (fun j hj => e j (by omega))]
/-! counts -/
def cn (g : Nat → Int32) (v : Int32) : Nat → Nat
  | 0 => 0
  | n + 1 => cn g v n + (if g n = v then 1 else 0)
theorem cn_le (g : Nat → Int32) (v : Int32) (n : Nat) : cn g v n ≤ n := by
  induction n with
  | zero => exact Nat.le_refl _
  | succ n ih => rw [cn]; split <;> omega
theorem cn_congr {g g' : Nat → Int32} (v : Int32) (n : Nat) (e : ∀ j, j < n → g j = g' j) : cn g v n = cn g' v n := by
  induction n with
  | zero => rfl
  | succ n ih => rw [cn, cn, e n (by omega), ih (fun j hj => e j (by omega))]
/-! what a farm does -/
abbrev q_R3 (x : Int32) : Prop := 0 ≤ x.toInt ∧ x.toInt ≤ 3
def hr (h : Nat → Int32) (m F : Nat) : Int32 := if F ≤ m then h (m - F) else 0
def sgn (N : Nat → Int32) (j m : Nat) (h : Nat → Int32) : Int32 :=
  if N (5 * j + 1) = 0 then hr h m (N (5 * j)).toInt.toNat
  else if N (5 * j + 1) = 1 then 0
  else if N (5 * j + 1) = 2 then (if hr h m (N (5 * j)).toInt.toNat = 1 then 2 else if hr h m (N (5 * j)).toInt.toNat = 2 then 1 else hr h m (N (5 * j)).toInt.toNat)
  else if N (5 * j + 1) = 3 then (if nI m - nI m / (N (5 * j + 2) + 1) * (N (5 * j + 2) + 1) = 0 then N (5 * j + 3) else 0)
  else if N (5 * j + 1) = 4 then hr h m ((N (5 * j)).toInt.toNat + (N (5 * j + 4)).toInt.toNat)
  else if nI m < N (5 * j + 2) then hr h m (N (5 * j)).toInt.toNat else N (5 * j + 3)
/-- a farm's numbers are such as they may be -/
def Rg (N : Nat → Int32) (j : Nat) : Prop := 0 ≤ (N (5 * j)).toInt ∧ (N (5 * j)).toInt ≤ 9 ∧ 0 ≤ (N (5 * j + 1)).toInt ∧ (N (5 * j + 1)).toInt ≤ 5 ∧ 0 ≤ (N (5 * j + 2)).toInt ∧ (N (5 * j + 2)).toInt ≤ 99 ∧ 0 ≤ (N (5 * j + 3)).toInt ∧ (N (5 * j + 3)).toInt ≤ 3 ∧ 0 ≤ (N (5 * j + 4)).toInt ∧ (N (5 * j + 4)).toInt ≤ 9
theorem q_R30 : q_R3 0 := by decide
theorem hr_R {h : Nat → Int32} {m F : Nat} (hh : ∀ j, j ≤ m → q_R3 (h j)) : q_R3 (hr h m F) := by
  rw [hr]; split
  · exact hh _ (by omega)
  · exact q_R30
theorem sgn_R {N : Nat → Int32} {j m : Nat} {h : Nat → Int32} (hR : Rg N j) (hh : ∀ j, j ≤ m → q_R3 (h j)) : q_R3 (sgn N j m h) := by
  have hd : q_R3 (N (5 * j + 3)) := ⟨hR.2.2.2.2.2.2.1, hR.2.2.2.2.2.2.2.1⟩
  have h2 : q_R3 2 := by decide
  have h1 : q_R3 1 := by decide
  have hF := hr_R (m := m) (F := (N (5 * j)).toInt.toNat) hh
  have hF2 := hr_R (m := m) (F := (N (5 * j)).toInt.toNat + (N (5 * j + 4)).toInt.toNat) hh
  unfold sgn
  generalize hr h m (N (5 * j)).toInt.toNat = x at hF ⊢
  generalize hr h m ((N (5 * j)).toInt.toNat + (N (5 * j + 4)).toInt.toNat) = y at hF2 ⊢
  repeat' split
  all_goals first | exact hF | exact hF2 | exact q_R30 | exact hd | exact h1 | exact h2
theorem sgn_congr {N N' : Nat → Int32} {j m : Nat} {h h' : Nat → Int32} (e0 : N (5 * j) = N' (5 * j)) (e1 : N (5 * j + 1) = N' (5 * j + 1)) (e2 : N (5 * j + 2) = N' (5 * j + 2)) (e3 : N (5 * j + 3) = N' (5 * j + 3)) (e4 : N (5 * j + 4) = N' (5 * j + 4)) (eh : ∀ j, j ≤ m → h j = h' j) : sgn N j m h = sgn N' j m h' := by
  have : ∀ F, hr h m F = hr h' m F := by
    intro F
    rw [hr, hr]
    split
    · exact eh _ (by omega)
    · rfl
  unfold sgn
  rw [e0, e1, e2, e3, e4]
  simp only [this]
/-! the next stroke, by counts -/
abbrev QT : Type := Nat → Nat → Nat → Int32 → Nat → Nat → Int32
def clp (v : Int32) : Int32 := if v < 0 then 0 else if 3 < v then 3 else v
def pk3 (q : Int32) (a b c : Nat) : Int32 :=
  if a < b then (if b < c then (if 1 ≤ c ∧ q ≤ nI c then 3 else 0) else (if 1 ≤ b ∧ q ≤ nI b then 2 else 0))
  else (if a < c then (if 1 ≤ c ∧ q ≤ nI c then 3 else 0) else (if 1 ≤ a ∧ q ≤ nI a then 1 else 0))
theorem clp_R (v : Int32) : q_R3 (clp v) := by
  unfold clp q_R3
  simp only [Int32.lt_iff_toInt_lt, qv_0, qv_3]
  split
  · decide
  · split
    · decide
    · omega
theorem pk3_R (q : Int32) (a b c : Nat) : q_R3 (pk3 q a b c) := by
  unfold pk3
  repeat' split
  all_goals decide
/-! days -/
def nx (S : (Nat → Int32) → Nat → Nat → Int32) (n : Nat) (T : QT) (h : Nat → Int32) (m : Nat) : Int32 := T (cn (S h m) 1 n) (cn (S h m) 2 n) (cn (S h m) 3 n) (h m) (lr h m) (m + 1)
def dt (b : Int32) (f : (Nat → Int32) → Nat → Int32) : Nat → Nat → Int32
  | 0 => fun j => if j = 0 then b else 0
  | m + 1 => fun j => if j = m + 1 then f (dt b f m) m else dt b f m j
theorem dt_s (b : Int32) (f : (Nat → Int32) → Nat → Int32) (m : Nat) : dt b f (m + 1) (m + 1) = f (dt b f m) m := by simp [dt]
theorem dt_k (b : Int32) (f : (Nat → Int32) → Nat → Int32) {m j : Nat} (h : j ≤ m) : dt b f (m + 1) j = dt b f m j := by
  show (if j = m + 1 then f (dt b f m) m else dt b f m j) = _
  rw [if_neg (by omega)]
theorem dt_le (b : Int32) (f : (Nat → Int32) → Nat → Int32) {m m' j : Nat} (h : j ≤ m) (hm : m ≤ m') : dt b f m' j = dt b f m j := by
  induction m' with
  | zero => rw [show m = 0 by omega]
  | succ m' ih =>
    rcases Nat.lt_or_ge m' m with q | q
    · rw [show m = m' + 1 by omega]
    · rw [dt_k b f (by omega)]
      exact ih q
theorem dt_R {b : Int32} {f : (Nat → Int32) → Nat → Int32} (hb : q_R3 b) (hf : ∀ h m, (∀ j, j ≤ m → q_R3 (h j)) → q_R3 (f h m)) (m : Nat) : ∀ j, j ≤ m → q_R3 (dt b f m j) := by
  induction m with
  | zero =>
    intro j hj
    show q_R3 (if j = 0 then b else 0)
    rw [if_pos (by omega)]
    exact hb
  | succ m ih =>
    intro j hj
    rcases Nat.lt_or_ge m j with q | q
    · rw [show j = m + 1 by omega, dt_s]
      exact hf _ _ ih
    · rw [dt_k b f q]
      exact ih j q
theorem nx_congr {S S' : (Nat → Int32) → Nat → Nat → Int32} {n : Nat} {T : QT} {h : Nat → Int32} {m : Nat} (e : ∀ j, j < n → S h m j = S' h m j) : nx S n T h m = nx S' n T h m := by
  unfold nx
  rw [cn_congr 1 n e, cn_congr 2 n e, cn_congr 3 n e]
theorem dt_congr {b : Int32} {f f' : (Nat → Int32) → Nat → Int32} (hb : q_R3 b) (hf : ∀ h m, (∀ j, j ≤ m → q_R3 (h j)) → q_R3 (f h m)) {N : Nat} (e : ∀ h m, m < N → (∀ j, j ≤ m → q_R3 (h j)) → f h m = f' h m) : ∀ m, m ≤ N → dt b f m = dt b f' m := by
  intro m
  induction m with
  | zero => intro _; rfl
  | succ m ih =>
    intro hm
    have e1 := ih (by omega)
    funext j
    rw [dt, dt, ← e1, e _ m (by omega) (dt_R hb hf m)]
