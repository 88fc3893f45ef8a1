/-! HOW THE CLEAN MACHINE STANDS TO THE REAL ONE -/
abbrev QTy : Type := ClassId × ClassId × ClassId × ClassId
def q_tys (ty : QTy) : List (ClassId × FieldType) := [(ty.1, .int), (ty.2.1, .long), (ty.2.2.1, .boolean), (ty.2.2.2, .object "RungByHeart$Shelf")]
def q_rho (tb : Nat → Nat) (base : Nat) (a : Nat) : Nat := if a < 4 then tb a else base + (a - 4)
def q_rv (tb : Nat → Nat) (base : Nat) (v : Value) : Value := match v with
  | .ref a => .ref (q_rho tb base a)
  | v => v
/-- field k of class ci is an int or a boolean -/
def q_fi (ci k : Nat) : Bool := match vwCl[ci]? with
  | some r => (r.2.1 k).2.2.1 == "I" || (r.2.1 k).2.2.1 == "Z"
  | none => false
def q_nf (ci : Nat) : Nat := match vwCl[ci]? with
  | some r => r.2.2
  | none => 0
def q_fv (tb : Nat → Nat) (base : Nat) (M : QM) (a ci : Nat) (rs : List (Option Nat)) (k : Nat) : Value := if q_fi ci k = true then .int (M.1 a k) else va_rf ((q_nth rs k).map (q_rho tb base))
def q_ent (ty : QTy) (tb : Nat → Nat) (base : Nat) (M : QM) (a : Nat) (q : QCell) : va_E :=
  if q.1 < 10 then .inr (q.1, (List.range (q_nf q.1)).map (q_fv tb base M a q.1 q.2.2))
  else if q.1 = 10 then .inl (ty.1, q.2.1, .inl (M.1 a))
  else if q.1 = 11 then .inl (ty.2.1, q.2.1, .inr (.inl (M.2 a)))
  else if q.1 = 12 then .inl (ty.2.2.1, q.2.1, .inl (M.1 a))
  else .inl (ty.2.2.2, q.2.1, .inr (.inr (.inr (.inr (fun j => (q_nth q.2.2 j).map (q_rho tb base))))))
def q_wf (ty : QTy) (tb : Nat → Nat) (base : Nat) (M : QM) (i : Nat) (q : QCell) : Nat × va_E := (base + i, q_ent ty tb base M (i + 4) q)
def q_W (ty : QTy) (tb : Nat → Nat) (base : Nat) (G : QG) (M : QM) : va_W := G.mapIdx (q_wf ty tb base M)
theorem q_lk_get (G : QG) (i : Nat) : q_lk G i = G[i]? := by
  induction G generalizing i with
  | nil => simp [q_lk]
  | cons a t ih => cases i with
    | zero => simp [q_lk]
    | succ i => simp [q_lk, ih]
theorem q_nth_get (rs : List (Option Nat)) (i : Nat) : q_nth rs i = (rs[i]?).join := by
  induction rs generalizing i with
  | nil => simp [q_nth]
  | cons a t ih => cases i with
    | zero => simp [q_nth]
    | succ i => simp [q_nth, ih]
theorem q_W_get {ty : QTy} {tb : Nat → Nat} {base : Nat} {G : QG} {M : QM} {i : Nat} {q : QCell} (h : G[i]? = some q) : (q_W ty tb base G M)[i]? = some (base + i, q_ent ty tb base M (i + 4) q) := by
  simp [q_W, List.getElem?_mapIdx, h, q_wf]
theorem q_W_len {ty : QTy} {tb : Nat → Nat} {base : Nat} {G : QG} {M : QM} : (q_W ty tb base G M).length = G.length := by simp [q_W]
/-- memory changed in one cell alone -/
theorem q_W_set {ty : QTy} {tb : Nat → Nat} {base : Nat} {G : QG} {M M' : QM} {i : Nat} {q : QCell} {e : va_E} (h : G[i]? = some q) (h1 : ∀ a, a ≠ i + 4 → M'.1 a = M.1 a ∧ M'.2 a = M.2 a) (he : q_ent ty tb base M' (i + 4) q = e) :
    (q_W ty tb base G M).set i (base + i, e) = q_W ty tb base G M' := by
  subst he
  have hi : i < G.length := (List.getElem?_eq_some_iff.mp h).1
  apply List.ext_getElem?
  intro j
  by_cases hj : i = j
  · subst hj
    rw [List.getElem?_set_self (by rw [q_W_len]; exact hi), q_W_get h]
  · rw [List.getElem?_set_ne hj]
    cases hg : G[j]? with
    | none =>
      have hlen : G.length ≤ j := by simpa using hg
      rw [List.getElem?_eq_none (by rw [q_W_len]; exact hlen), List.getElem?_eq_none (by rw [q_W_len]; exact hlen)]
    | some r =>
      rw [q_W_get hg, q_W_get hg]
      have h2 := h1 (j + 4) (by omega)
      have e1 : q_ent ty tb base M' (j + 4) r = q_ent ty tb base M (j + 4) r := by
        unfold q_ent q_fv
        rw [h2.1, h2.2]
      rw [e1]
/-- the locals: what the clean ones name stands in the real ones -/
def QLR (tb : Nat → Nat) (base nL : Nat) (ls : Array Slot) (L : QL) : Prop := lv_has ls nL [] ∧ ∀ (i : Nat) (v : Value), q_get L i = some v → ls[i]? = some (.val (q_rv tb base v))
def q_lv (tb : Nat → Nat) (base nL : Nat) (L : QL) : List (Nat × Value) := (List.range nL).filterMap (fun i => (q_get L i).map (fun v => (i, q_rv tb base v)))
theorem QLR.has {tb : Nat → Nat} {base nL : Nat} {ls : Array Slot} {L : QL} (h : QLR tb base nL ls L) : lv_has ls nL (q_lv tb base nL L) := by
  refine ⟨h.1.1, h.1.2.1, fun q hq => ?_⟩
  obtain ⟨i, -, hi⟩ := List.mem_filterMap.mp hq
  cases hg : q_get L i with
  | none => rw [hg] at hi; cases hi
  | some v =>
    rw [hg] at hi
    cases hi
    exact h.2 i v hg
theorem QLR.mem {tb : Nat → Nat} {base nL : Nat} {ls : Array Slot} {L : QL} (h : QLR tb base nL ls L) {i : Nat} {v : Value} (hg : q_get L i = some v) : (i, q_rv tb base v) ∈ q_lv tb base nL L := by
  refine List.mem_filterMap.mpr ⟨i, List.mem_range.mpr ?_, by rw [hg]; rfl⟩
  have := lv_lt (h.2 i v hg)
  rw [h.1.1] at this
  exact this
def q_putL (L : QL) (i : Nat) (v : Value) : QL := q_put L i v (fun L => L)
def q_clrL (L : QL) (i : Nat) : QL := q_clr L i (fun L => L)
theorem q_put_eq {β : Type} (L : QL) (i : Nat) (v : Value) (f : QL → β) : q_put L i v f = f (q_putL L i v) := by
  induction L generalizing i β f with
  | nil => simp [q_put, q_putL]
  | cons a t ih => match i with
    | 0 => simp [q_put, q_putL]
    | 1 =>
      simp only [q_put, q_putL]
      rw [ih, ih 0 (fun t' => q_keep a :: t')]
    | i + 2 =>
      simp only [q_put, q_putL]
      rw [ih, ih (i + 1) (fun t' => a :: t')]
theorem q_clr_eq {β : Type} (L : QL) (i : Nat) (f : QL → β) : q_clr L i f = f (q_clrL L i) := by
  induction L generalizing i β f with
  | nil => simp [q_clr, q_clrL]
  | cons a t ih => match i with
    | 0 => simp [q_clr, q_clrL]
    | i + 1 =>
      simp only [q_clr, q_clrL]
      rw [ih, ih i (fun t' => a :: t')]
theorem q_putL_get (L : QL) (i : Nat) (w : Value) (j : Nat) (v : Value) (h : q_get (q_putL L i w) j = some v) : (j = i ∧ v = w) ∨ (j ≠ i ∧ q_get L j = some v ∧ ¬ (j + 1 = i ∧ v.category = 2)) := by
  induction L generalizing i j with
  | nil => simp [q_putL, q_put, q_get] at h
  | cons a t ih => match i with
    | 0 =>
      simp only [q_putL, q_put] at h
      cases j with
      | zero => simp only [q_get, Option.some.injEq] at h; exact Or.inl ⟨rfl, h.symm⟩
      | succ j => exact Or.inr ⟨by omega, h, by omega⟩
    | 1 =>
      simp only [q_putL, q_put] at h
      rw [q_put_eq] at h
      cases j with
      | zero =>
        simp only [q_get] at h
        refine Or.inr ⟨by omega, ?_, fun hx => ?_⟩
        · unfold q_keep at h
          split at h
          · cases h
          · cases h
          · exact h
        · obtain ⟨-, hx⟩ := hx
          unfold q_keep at h
          split at h
          · cases h
          · cases h
          · rename_i hn1 hn2
            cases v <;> simp [Value.category] at hx
            · exact hn1 _ h
            · exact hn2 _ h
      | succ j =>
        rcases ih 0 j h with ⟨h1, h2⟩ | ⟨h1, h2, h3⟩
        · exact Or.inl ⟨by omega, h2⟩
        · exact Or.inr ⟨by omega, h2, fun hx => h3 ⟨by omega, hx.2⟩⟩
    | i + 2 =>
      simp only [q_putL, q_put] at h
      rw [q_put_eq] at h
      cases j with
      | zero => exact Or.inr ⟨by omega, h, by omega⟩
      | succ j =>
        rcases ih (i + 1) j h with ⟨h1, h2⟩ | ⟨h1, h2, h3⟩
        · exact Or.inl ⟨by omega, h2⟩
        · exact Or.inr ⟨by omega, h2, fun hx => h3 ⟨by omega, hx.2⟩⟩
theorem q_clrL_get (L : QL) (i j : Nat) (v : Value) (h : q_get (q_clrL L i) j = some v) : j ≠ i ∧ q_get L j = some v := by
  induction L generalizing i j with
  | nil => simp [q_clrL, q_clr, q_get] at h
  | cons a t ih => match i with
    | 0 =>
      simp only [q_clrL, q_clr] at h
      cases j with
      | zero => simp [q_get] at h
      | succ j => exact ⟨by omega, h⟩
    | i + 1 =>
      simp only [q_clrL, q_clr] at h
      rw [q_clr_eq] at h
      cases j with
      | zero => exact ⟨by omega, h⟩
      | succ j =>
        obtain ⟨h1, h2⟩ := ih i j h
        exact ⟨by omega, h2⟩
theorem q_rv_cat (tb : Nat → Nat) (base : Nat) (v : Value) : (q_rv tb base v).category = v.category := by cases v <;> rfl
theorem q_mask_get (b : List Bool) (L : QL) (i : Nat) (v : Value) (h : q_get (q_mask b L) i = some v) : q_get L i = some v := by
  induction b generalizing L i with
  | nil => simp [q_mask, q_get] at h
  | cons c b ih => cases L with
    | nil => cases c <;> simp [q_mask, q_get] at h
    | cons a t => cases c <;> cases i <;> simp only [q_mask, q_get] at h ⊢ <;> first | exact ih _ _ h | exact h | cases h
theorem QLR.mask {tb : Nat → Nat} {base nL : Nat} {ls : Array Slot} {L : QL} (h : QLR tb base nL ls L) (b : List Bool) : QLR tb base nL ls (q_mask b L) := ⟨h.1, fun i v hv => h.2 i v (q_mask_get b L i v hv)⟩
/-- behind a store of a one-word value -/
theorem QLR.put {tb : Nat → Nat} {base nL : Nat} {ls ls' : Array Slot} {L : QL} (h : QLR tb base nL ls L) {i : Nat} {w : Value}
    (h' : lv_has ls' nL ((i, q_rv tb base w) :: (q_lv tb base nL L).filter (fun q => !(q.1 == i) && !(q.1 + 1 == i && q.2.category == 2)))) : QLR tb base nL ls' (q_putL L i w) := by
  refine ⟨⟨h'.1, h'.2.1, fun q hq => by cases hq⟩, fun j v hv => ?_⟩
  rcases q_putL_get L i w j v hv with ⟨rfl, rfl⟩ | ⟨h1, h2, h3⟩
  · exact h'.2.2 (j, q_rv tb base v) List.mem_cons_self
  · refine h'.2.2 (j, q_rv tb base v) (List.mem_cons_of_mem _ (List.mem_filter.mpr ⟨h.mem h2, ?_⟩))
    by_cases hj : j + 1 = i
    · have hc : ¬ v.category = 2 := fun hc => h3 ⟨hj, hc⟩
      have e1 : (j == i) = false := by simp; omega
      have e2 : ((q_rv tb base v).category == 2) = false := by rw [q_rv_cat]; simp [hc]
      simp only [e1, e2]
      simp
    · have e1 : (j == i) = false := by simp; omega
      have e2 : (j + 1 == i) = false := by simp [hj]
      simp only [e1, e2]
      simp
