/-! PLAIN ROWS OVER THE TREES: places in memory, the objects of a kind -/
theorem q_up_s {α : Type} (h : Nat → Nat → α) (a k : Nat) (v : α) : q_up h a k v a k = v := by simp [q_up]
theorem q_up_a {α : Type} (h : Nat → Nat → α) {a a' : Nat} (k k' : Nat) (v : α) (hn : a' ≠ a) : q_up h a k v a' k' = h a' k' := by simp [q_up, hn]
theorem q_up_k {α : Type} (h : Nat → Nat → α) (a a' : Nat) {k k' : Nat} (v : α) (hn : k' ≠ k) : q_up h a k v a' k' = h a' k' := by simp [q_up, hn]
theorem q_uc_a {α : Type} (h : Nat → Nat → α) {a a' : Nat} (f : Nat → α) (k : Nat) (hn : a' ≠ a) : q_uc h a f a' k = h a' k := by simp [q_uc, hn]
theorem q_uc_s {α : Type} (h : Nat → Nat → α) (a : Nat) (f : Nat → α) (k : Nat) : q_uc h a f a k = f k := by simp [q_uc]
def qIsF (f : Nat) : Prop := f = 5 ∨ f = 7
def qIsT (t : Nat) : Prop := t = 9 ∨ t = 11 ∨ t = 21 ∨ t = 25
def qIsS (s : Nat) : Prop := s = 36 ∨ s = 38 ∨ s = 40 ∨ s = 42 ∨ s = 44 ∨ s = 46
section QOBJ
variable {β : Type} {sl : Nat} {sx : Nat → Int32} {f t s : Nat} {M : QM}
theorem qF_O (h : qIsF f) (o : Option β) : q_atO qG0 (qX sl sx) f 2 o = o := by rcases h with rfl | rfl <;> rfl
theorem qF_A (h : qIsF f) (g : Nat → Option β) : q_atA qG0 (qX sl sx) f 2 0 g = g (f + 1) := by rcases h with rfl | rfl <;> rfl
theorem qF_len (h : qIsF f) (g : Nat → Option β) : q_len qG0 (qX sl sx) (f + 1) g = g 53 := by rcases h with rfl | rfl <;> rfl
theorem qF_arI (h : qIsF f) (i : Int32) (g : Int32 → Option β) : q_arI qG0 (qX sl sx) M (f + 1) i g = if i < 0 ∨ 53 ≤ i.toNatClampNeg then none else g (M.1 (f + 1) i.toNatClampNeg) := by rcases h with rfl | rfl <;> rfl
theorem qF_arO (h : qIsF f) (i : Int32) (o : Option β) : q_arO qG0 (qX sl sx) (f + 1) i 10 o = if i < 0 ∨ 53 ≤ i.toNatClampNeg then none else o := by rcases h with rfl | rfl <;> rfl
theorem qF_rc (h : qIsF f) (as : List Value) (o : Option β) : q_rc qG0 (qX sl sx) (some 2) (.ref f :: as) o = o := by rcases h with rfl | rfl <;> rfl
theorem qT_O (h : qIsT t) (o : Option β) : q_atO qG0 (qX sl sx) t 7 o = o := by rcases h with rfl | rfl | rfl | rfl <;> rfl
theorem qT_A (h : qIsT t) (g : Nat → Option β) : q_atA qG0 (qX sl sx) t 7 0 g = g (t + 1) := by rcases h with rfl | rfl | rfl | rfl <;> rfl
theorem qT_len (h : qIsT t) (g : Nat → Option β) : q_len qG0 (qX sl sx) (t + 1) g = g 301 := by rcases h with rfl | rfl | rfl | rfl <;> rfl
theorem qT_arI (h : qIsT t) (i : Int32) (g : Int32 → Option β) : q_arI qG0 (qX sl sx) M (t + 1) i g = if i < 0 ∨ 301 ≤ i.toNatClampNeg then none else g (M.1 (t + 1) i.toNatClampNeg) := by rcases h with rfl | rfl | rfl | rfl <;> rfl
theorem qT_arO (h : qIsT t) (i : Int32) (o : Option β) : q_arO qG0 (qX sl sx) (t + 1) i 10 o = if i < 0 ∨ 301 ≤ i.toNatClampNeg then none else o := by rcases h with rfl | rfl | rfl | rfl <;> rfl
theorem qT_rc (h : qIsT t) (as : List Value) (o : Option β) : q_rc qG0 (qX sl sx) (some 7) (.ref t :: as) o = o := by rcases h with rfl | rfl | rfl | rfl <;> rfl
theorem qS_O (h : qIsS s) (o : Option β) : q_atO qG0 (qX sl sx) s 5 o = o := by rcases h with rfl | rfl | rfl | rfl | rfl | rfl <;> rfl
theorem qS_A (h : qIsS s) (g : Nat → Option β) : q_atA qG0 (qX sl sx) s 5 3 g = g (s + 1) := by rcases h with rfl | rfl | rfl | rfl | rfl | rfl <;> rfl
theorem qS_len (h : qIsS s) (g : Nat → Option β) : q_len qG0 (qX sl sx) (s + 1) g = g 60 := by rcases h with rfl | rfl | rfl | rfl | rfl | rfl <;> rfl
theorem qS_arO (h : qIsS s) (i : Int32) (o : Option β) : q_arO qG0 (qX sl sx) (s + 1) i 11 o = if i < 0 ∨ 60 ≤ i.toNatClampNeg then none else o := by rcases h with rfl | rfl | rfl | rfl | rfl | rfl <;> rfl
theorem qS_rc (h : qIsS s) (as : List Value) (o : Option β) : q_rc qG0 (qX sl sx) (some 5) (.ref s :: as) o = o := by rcases h with rfl | rfl | rfl | rfl | rfl | rfl <;> rfl
end QOBJ
theorem q_bi_s {Rt : Type} (v : Int32) (M : QM) (f : Int32 → QM → Option Rt) : q_bi (some (some (.int v), M)) f = f v M := rfl
theorem q_bv_s {Rt : Type} (M : QM) (f : QM → Option Rt) : q_bv (some (none, M)) f = f M := rfl
theorem q_bl_s {Rt : Type} (v : Int64) (M : QM) (f : Int64 → QM → Option Rt) : q_bl (some (some (.long v), M)) f = f v M := rfl
theorem q_br_s {Rt : Type} (v : Nat) (M : QM) (f : Nat → QM → Option Rt) (g : QM → Option Rt) : q_br (some (some (.ref v), M)) f g = f v M := rfl
theorem q_br_n {Rt : Type} (M : QM) (f : Nat → QM → Option Rt) (g : QM → Option Rt) : q_br (some (some .null, M)) f g = g M := rfl
theorem q_clamp (x : Int32) : x.toNatClampNeg = x.toInt.toNat := rfl
/-- a place that is there -/
theorem q_inb {x : Int32} {n : Nat} (h0 : 0 ≤ x.toInt) (h1 : x.toInt < n) : ¬ (x < 0 ∨ n ≤ x.toNatClampNeg) := by
  rw [q_clamp, Int32.lt_iff_toInt_lt, Int32.toInt_zero]
  omega
theorem q_n53 : (Int32.ofNat 53).toInt = 53 := by decide
theorem q_n60 : (Int32.ofNat 60).toInt = 60 := by decide
theorem q_n301 : (Int32.ofNat 301).toInt = 301 := by decide
theorem q_z0 : (0 : Int32).toInt = 0 := by decide
section QLEAF
variable {sl : Nat} {sx : Nat → Int32} {d : Nat} {f t s : Nat} {M : QM} {x y z : Int32}
theorem k_within : qK sl sx (d + 1) 126 [.int x, .int y] M = some (some (.int (if 0 ≤ x.toInt ∧ x.toInt ≤ y.toInt then 1 else 0)), M) := by
  rw [e_X8_within, b_X8_within_0]
  simp only [Int32.lt_iff_toInt_lt, q_z0]
  grind
theorem k_isFarm (hf : qIsF f) : qK sl sx (d + 1) 16 [.ref f, .int x] M = some (some (.int (if 0 ≤ x.toInt ∧ x.toInt < (M.1 f 1).toInt then 1 else 0)), M) := by
  rw [e_X2_isFarm, b_X2_isFarm_0]
  simp only [qF_O hf, Int32.lt_iff_toInt_lt, Int32.le_iff_toInt_le, q_z0]
  grind
theorem k_value (hf : qIsF f) : qK sl sx (d + 1) 18 [.ref f, .int x] M = some (some (.int (if 0 ≤ x.toInt ∧ x.toInt < 53 then M.1 (f + 1) x.toInt.toNat else 0)), M) := by
  rw [e_X2_value, b_X2_value_0]
  simp only [qF_A hf, qF_len hf, qF_arI hf, Int32.lt_iff_toInt_lt, Int32.le_iff_toInt_le, q_clamp, q_z0, q_n53]
  grind
theorem k_write (hf : qIsF f) : qK sl sx (d + 1) 19 [.ref f, .int x, .int y] M = some (none, if 0 ≤ x.toInt ∧ x.toInt < 53 then (q_up M.1 (f + 1) x.toInt.toNat y, M.2) else M) := by
  rw [e_X2_write, b_X2_write_0]
  simp only [qF_A hf, qF_len hf, qF_arO hf, Int32.lt_iff_toInt_lt, Int32.le_iff_toInt_le, q_clamp, q_z0, q_n53]
  grind
theorem k_at (ht : qIsT t) : qK sl sx (d + 1) 75 [.ref t, .int x] M = some (some (.int (if 0 ≤ x.toInt ∧ x.toInt ≤ (M.1 t 1).toInt ∧ x.toInt < 301 then M.1 (t + 1) x.toInt.toNat else 0)), M) := by
  rw [e_X7_at, b_X7_at_0]
  simp only [qT_O ht, qT_A ht, qT_len ht, qT_arI ht, Int32.lt_iff_toInt_lt, Int32.le_iff_toInt_le, q_clamp, q_z0, q_n301]
  grind
theorem k_begin (ht : qIsT t) : qK sl sx (d + 1) 73 [.ref t, .int x] M = some (none, (q_up (q_up (q_up M.1 (t + 1) 0 x) t 1 0) t 2 1, M.2)) := by
  rw [e_X7_begin, b_X7_begin_0]
  simp only [qT_O ht, qT_A ht, qT_arO ht]
  rfl
theorem k_holdsNothing (hs : qIsS s) : qK sl sx (d + 1) 47 [.ref s] M = some (some (.int (if M.1 s 0 = -1 then 1 else 0)), M) := by
  rw [e_X5_holdsNothing, b_X5_holdsNothing_0]
  simp only [qS_O hs]
  grind
theorem k_holdsRow (hs : qIsS s) : qK sl sx (d + 1) 48 [.ref s] M = some (some (.int (if M.1 s 0 < 0 then 0 else 1)), M) := by
  rw [e_X5_holdsRow, b_X5_holdsRow_0]
  simp only [qS_O hs]
  grind
theorem k_holdsBytes (hs : qIsS s) : qK sl sx (d + 1) 49 [.ref s] M = some (some (.int (if M.1 s 0 = 0 then 1 else 0)), M) := by
  rw [e_X5_holdsBytes, b_X5_holdsBytes_0]
  simp only [qS_O hs]
  grind
theorem k_refusal (hs : qIsS s) : qK sl sx (d + 2) 50 [.ref s] M = some (some (.int (if M.1 s 0 = -1 then -11 else -12)), M) := by
  rw [e_X5_refusal, b_X5_refusal_0]
  simp only [qS_rc hs, k_holdsNothing hs, q_bi_s]
  grind
theorem k_hasPlace (hs : qIsS s) : qK sl sx (d + 1) 54 [.ref s, .int x] M = some (some (.int (if 0 ≤ x.toInt ∧ x.toInt < (M.1 s 1).toInt then 1 else 0)), M) := by
  rw [e_X5_hasPlace, b_X5_hasPlace_0]
  simp only [qS_O hs, Int32.lt_iff_toInt_lt, Int32.le_iff_toInt_le, q_z0]
  grind
theorem k_cell (hs : qIsS s) (hz : (M.1 s 1).toInt ≤ 60) : qK sl sx (d + 2) 56 [.ref s, .int x] M = some (some (.long (if 0 ≤ x.toInt ∧ x.toInt < (M.1 s 1).toInt then M.2 (s + 1) x.toInt.toNat else 0)), M) := by
  rw [e_X5_cell, b_X5_cell_0]
  simp only [qS_rc hs, k_hasPlace hs, q_bi_s, qS_A hs, qS_len hs, qS_arO hs, Int32.lt_iff_toInt_lt, Int32.le_iff_toInt_le, q_clamp, q_z0, q_n60]
  grind
theorem k_count : qK sl sx (d + 1) 125 [.ref 4, .int x] M = some (some (.int (if x = 0 then M.1 5 1 else if x = 1 then M.1 14 1 else if x = 2 then M.1 28 3 else if x = 3 then M.1 32 1 else if x = 4 then M.1 32 3 else -1)), M) := by
  rw [e_X8_count, b_X8_count_0]
  grind
theorem k_count9 : qK sl sx (d + 1) 256 [.ref 48, .int x] M = some (some (.int (if x = 0 then M.1 48 0 else if x = 1 then M.1 48 4 else if x = 2 then M.1 48 20 else if x = 3 then M.1 48 7 else if x = 4 then M.1 48 6 else -1)), M) := by
  rw [e_X9_count, b_X9_count_0]
  grind
end QLEAF
