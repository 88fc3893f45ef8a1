/-! THE MACHINE THAT MAKES CELLS: constructors, and the law's beginning -/
abbrev QGC : Type := Nat → List Value → QG → QM → Option (Option Value × QG × QM)
abbrev QEG : Type 1 := Nat → Nat → QX → QGC → (Rt : Type) → (Nat → QL → List Value → QG → QM → Option Rt) → QL → List Value → QG → QM → Option Rt
def q_sl : QG → Nat
  | [] => 0
  | q :: t => q.2.1 + q_sl t
theorem q_sl_app (G G' : QG) : q_sl (G ++ G') = q_sl G + q_sl G' := by
  induction G with
  | nil => simp [q_sl]
  | cons a t ih => simp only [List.cons_append, q_sl, ih]; omega
def q_zero (M : QM) (a : Nat) : QM := (q_uc M.1 a (fun _ => 0), q_uc M.2 a (fun _ => 0))
/-- lists put together and changed at once, so that no work is left over in them -/
def q_app {α β : Type} : List α → α → (List α → β) → β
  | [], c, f => f [c]
  | a :: t, c, f => q_app t c (fun t' => f (a :: t'))
def q_sets {α β : Type} : List α → Nat → α → (List α → β) → β
  | [], _, _, f => f []
  | _ :: t, 0, c, f => f (c :: t)
  | a :: t, i + 1, c, f => q_sets t i c (fun t' => f (a :: t'))
theorem q_app_eq {α β : Type} (l : List α) (c : α) (f : List α → β) : q_app l c f = f (l ++ [c]) := by
  induction l generalizing f with
  | nil => rfl
  | cons a t ih => simp only [q_app, ih, List.cons_append]
theorem q_sets_eq {α β : Type} (l : List α) (i : Nat) (c : α) (f : List α → β) : q_sets l i c f = f (l.set i c) := by
  induction l generalizing i f with
  | nil => rfl
  | cons a t ih => cases i with
    | zero => rfl
    | succ i => simp only [q_sets, ih, List.set_cons_succ]
def qa_new (t ci : Nat) : QEG := fun lc lsl _ _ _ nx L S G M =>
  cond (Nat.ble (G.length + 1) lc && Nat.ble (q_sl G + q_nf ci) lsl) (q_app G (ci, q_nf ci, List.replicate (q_nf ci) none) (fun G' => nx t L (.ref (G.length + 4) :: S) G' (q_zero M (G.length + 4)))) none
def qa_arr (t kd : Nat) : QEG := fun lc lsl _ _ _ nx L S G M => match S with
  | .int n :: S => if n < 0 then none else cond (Nat.ble n.toNatClampNeg 1000 && (Nat.ble (G.length + 1) lc && Nat.ble (q_sl G + n.toNatClampNeg) lsl)) (q_app G (kd, n.toNatClampNeg, []) (fun G' => nx t L (.ref (G.length + 4) :: S) G' (q_zero M (G.length + 4)))) none
  | _ => none
def qa_arq (t : Nat) : QEG := fun lc lsl _ _ _ nx L S G M => match S with
  | .int n :: S => if n < 0 then none else cond (Nat.ble n.toNatClampNeg 1000 && (Nat.ble (G.length + 1) lc && Nat.ble (q_sl G + n.toNatClampNeg) lsl)) (q_app G (13, n.toNatClampNeg, List.replicate n.toNatClampNeg none) (fun G' => nx t L (.ref (G.length + 4) :: S) G' (q_zero M (G.length + 4)))) none
  | _ => none
def qa_putA (t ci k : Nat) : QEG := fun _ _ X _ _ nx L S G M => match S with
  | .ref b :: .ref a :: S => (match q_cell G X a with
    | some (kd, n, rs) => cond (kd == ci && Nat.blt k rs.length) (q_sets rs k (some b) (fun rs' => q_sets G (a - 4) (kd, n, rs') (fun G' => nx t L S G' M))) none
    | none => none)
  | _ => none
def qa_aast (t : Nat) : QEG := fun _ _ X _ _ nx L S G M => match S with
  | .ref b :: .int i :: .ref a :: S => (match q_cell G X a, q_cell G X b with
    | some (kd, n, rs), some (kb, _, _) => if i < 0 ∨ n ≤ i.toNatClampNeg then none else cond (kd == 13 && (kb == 5 && Nat.blt i.toNatClampNeg rs.length)) (q_sets rs i.toNatClampNeg (some b) (fun rs' => q_sets G (a - 4) (kd, n, rs') (fun G' => nx t L S G' M))) none
    | _, _ => none)
  | _ => none
/-- a constructor: it makes so many cells and slots as B says -/
def qa_call (B : Nat → Nat × Nat) (t k n ci : Nat) : QEG := fun lc lsl X CG _ nx L S G M => q_pop (n + 1) S [] (fun as S => cond (Nat.ble (q_cat S) 8 && (Nat.ble (G.length + (B k).1) lc && Nat.ble (q_sl G + (B k).2) lsl)) (q_rc G X (some ci) as (match CG k as G M with
    | some (none, G', M') => nx t L S G' M'
    | _ => none)) none)
def q_gin {Rt : Type} (P : QP) (cd : Nat → Nat → Option QE) (ct : Nat → Nat → Option (List Bool)) (X : QX) (d : Nat) (CG : QGC) (lc lsl : Nat) (cg1 : Nat → Option QEG) (cd1 : Nat → Option QE) (ct1 : Nat → Option (List Bool)) (K : Nat → QL → List Value → QG → QM → Option Rt) (rt : Option Value → QG → QM → Option Rt) : Nat → Nat → QL → List Value → QG → QM → Option Rt
  | 0, _, _, _, _, _ => none
  | f + 1, pc, L, S, G, M => match cg1 pc with
    | some e => e lc lsl X CG Rt (fun pc' L' S' G' M' => match ct1 pc' with
      | none => q_gin P cd ct X d CG lc lsl cg1 cd1 ct1 K rt f pc' L' S' G' M'
      | some b => K pc' (q_mask b L') S' G' M') L S G M
    | none => match cd1 pc with
      | none => none
      | some e => e G X (q_call P cd ct G X d) Rt (fun pc' L' S' M' => match ct1 pc' with
        | none => q_gin P cd ct X d CG lc lsl cg1 cd1 ct1 K rt f pc' L' S' G M'
        | some b => K pc' (q_mask b L') S' G M') (fun v M' => rt v G M') L S M
def q_gout (P : QP) (cd : Nat → Nat → Option QE) (ct : Nat → Nat → Option (List Bool)) (X : QX) (d : Nat) (CG : QGC) (lc lsl : Nat) (cg1 : Nat → Option QEG) (cd1 : Nat → Option QE) (ct1 : Nat → Option (List Bool)) : Nat → Nat → QL → List Value → QG → QM → Option (Option Value × QG × QM)
  | 0, _, _, _, _, _ => none
  | n + 1, pc, L, S, G, M => q_gin P cd ct X d CG lc lsl cg1 cd1 ct1 (q_gout P cd ct X d CG lc lsl cg1 cd1 ct1 n) (fun v G M => some (v, G, M)) 400 pc L S G M
def q_chk (o : Option (Option Value × QG × QM)) (lc lsl : Nat) : Option (Option Value × QG × QM) := match o with
  | some (v, G, M) => cond (G.length == lc && q_sl G == lsl) (some (v, G, M)) none
  | none => none
def q_gcall (P : QP) (cd : Nat → Nat → Option QE) (ct : Nat → Nat → Option (List Bool)) (cg : Nat → Nat → Option QEG) (B : Nat → Nat × Nat) (X : QX) : Nat → QGC
  | 0 => fun _ _ _ _ => none
  | d + 1 => fun k as G M => cond (Nat.ble (q_args as).length (P k).2.2.1) (q_chk (q_gout P cd ct X d (q_gcall P cd ct cg B X d) (G.length + (B k).1) (q_sl G + (B k).2) (cg k) (cd k) (ct k) qN 0 (q_entry (P k).2.2.1 as) [] G M) (G.length + (B k).1) (q_sl G + (B k).2)) none
def QGok (l : Launch) (P : QP) (B : Nat → Nat × Nat) (D : va_G) (ty : QTy) (tb : Nat → Nat) (base : Nat) (X : QX) (CG : QGC) (d : Nat) : Prop :=
  ∀ (k : Nat) (as : List Value) (G : QG) (M : QM) (v : Option Value) (G' : QG) (M' : QM), CG k as G M = some (v, G', M') → Met l (P k).1 (q_ws P k) (q_rm d (B k).1 (B k).2) (va_Pc (as.map (q_rv tb base)) (QWld D ty tb base X G M)) (QQ D ty tb base v G' M') (B k).1 (B k).2 (q_A base) ∧ G'.length = G.length + (B k).1 ∧ q_sl G' = q_sl G + (B k).2
section QGW
variable (p : Program) (l : Launch) (e : Env) (R : Room) (s : State) (m : MethodId) (args : Array Value) (below : List Frame) (meth : Method) (c : Code) (D : va_G) (ty : QTy) (tb : Nat → Nat) (base nL lc lsl s0 : Nat) (Q : State → Prop)
def QWG (pc : Nat) (L : QL) (S : List Value) (G : QG) (M : QM) : Prop := ∀ (cells slots : Nat), s.heap.size + cells = base + G.length → slots + s0 = q_sl G → G.length ≤ lc → q_sl G ≤ lsl → QW p l e R s m args below meth c D ty tb base nL G cells slots Q pc L S M
def QRG (cc : ByteArray) (ret : Option FieldType) (v : Option Value) (G : QG) (M : QM) : Prop := ∀ (cells slots : Nat), s.heap.size + cells = base + G.length → slots + s0 = q_sl G → QRt p l e R s m args below meth c D ty tb base G cells slots Q cc ret v M
end QGW
def QGoodG (l : Launch) (P : QP) (B : Nat → Nat × Nat) (own : String) (cc : ByteArray) (nL pc : Nat) (E : QEG) : Prop :=
  ∀ (p : Program) (e : Env) (s : State) (m : MethodId) (args : Array Value) (below : List Frame) (meth : Method) (c : Code) (R : Room) (D : va_G) (ty : QTy) (tb : Nat → Nat) (base : Nat) (X : QX) (CG : QGC) (d lc lsl s0 : Nat) (Q : State → Prop),
    QCx D ty tb base X p s m args c own cc nL → QGok l P B D ty tb base X CG d → (d + 1 ≤ R.frames ∧ 40 * (d + 1) ≤ R.locals ∧ base + lc ≤ s.heap.size + R.cells ∧ lsl ≤ s0 + R.slots ∧ base ≤ s.heap.size) → meth.name = "<init>" ∨ own = "RungByHeartLaw" →
    ∀ (Rt : Type) (nx : Nat → QL → List Value → QG → QM → Option Rt) (L : QL) (S : List Value) (G : QG) (M : QM) (r : Rt), E lc lsl X CG Rt nx L S G M = some r →
      (∀ pc' L' S' G' M', nx pc' L' S' G' M' = some r → QWG p l e R s m args below meth c D ty tb base nL lc lsl s0 Q pc' L' S' G' M') →
      QWG p l e R s m args below meth c D ty tb base nL lc lsl s0 Q pc L S G M
/-- a new cell's place -/
theorem q_place {D : va_G} {ty : QTy} {tb : Nat → Nat} {base : Nat} {G : QG} {M : QM} {q : Nat} {E : va_E} {H1 : Heap} {n : Nat} (hP : va_P D vwCl (q_W ty tb base G M ++ [(q, E)]) H1) (hD : va_D (q_A base) (q_W ty tb base G M ++ [(q, E)])) (hsz : H1.size ≤ n) (hn : n = base + G.length + 1) : q = base + G.length := by
  have hlast : (q_W ty tb base G M ++ [(q, E)])[G.length]? = some (q, E) := by
    rw [List.getElem?_append_right (by rw [q_W_len]; exact Nat.le_refl _), q_W_len, Nat.sub_self]
    rfl
  have h1 : q < H1.size := (hP _ _ hlast).lt
  have h2 : base ≤ q := hD.2 _ _ hlast
  apply Nat.le_antisymm
  · omega
  · apply Nat.le_of_not_lt
    intro h3
    have hi : q - base < G.length := by omega
    have h4 : (q_W ty tb base G M ++ [(q, E)])[q - base]? = some (base + (q - base), q_ent ty tb base M (q - base + 4) G[q - base]) := by
      rw [List.getElem?_append_left (by rw [q_W_len]; exact hi)]
      exact q_W_get (List.getElem?_eq_getElem hi)
    have h5 := hD.1 _ _ _ _ h4 hlast (by show base + (q - base) = q; omega)
    omega
theorem q_W_push {ty : QTy} {tb : Nat → Nat} {base : Nat} {G : QG} {M : QM} {q : QCell} {E : va_E} (h : q_ent ty tb base (q_zero M (G.length + 4)) (G.length + 4) q = E) : q_W ty tb base G M ++ [(base + G.length, E)] = q_W ty tb base (G ++ [q]) (q_zero M (G.length + 4)) := by
  subst h
  apply List.ext_getElem?
  intro j
  rcases Nat.lt_or_ge j G.length with hj | hj
  · have h2 : (G ++ [q])[j]? = some G[j] := by rw [List.getElem?_append_left hj, List.getElem?_eq_getElem hj]
    rw [List.getElem?_append_left (by rw [q_W_len]; exact hj), q_W_get (List.getElem?_eq_getElem hj), q_W_get h2]
    have e1 : ∀ c : QCell, q_ent ty tb base (q_zero M (G.length + 4)) (j + 4) c = q_ent ty tb base M (j + 4) c := by
      intro c
      have z1 : (q_zero M (G.length + 4)).1 (j + 4) = M.1 (j + 4) := q_uc_ne _ _ (by omega)
      have z2 : (q_zero M (G.length + 4)).2 (j + 4) = M.2 (j + 4) := q_uc_ne _ _ (by omega)
      unfold q_ent q_fv
      rw [z1, z2]
    rw [e1]
  · rw [List.getElem?_append_right (by rw [q_W_len]; exact hj), q_W_len]
    by_cases hj2 : j = G.length
    · subst hj2
      rw [Nat.sub_self, q_W_get (q := q) (by simp)]
      rfl
    · rw [List.getElem?_eq_none (by simp; omega), List.getElem?_eq_none (by rw [q_W_len]; simp; omega)]
/-- one cell's references changed -/
theorem q_W_setG {ty : QTy} {tb : Nat → Nat} {base : Nat} {G : QG} {M : QM} {i : Nat} {q' : QCell} {e : va_E} (he : q_ent ty tb base M (i + 4) q' = e) (hi : i < G.length) : (q_W ty tb base G M).set i (base + i, e) = q_W ty tb base (G.set i q') M := by
  subst he
  apply List.ext_getElem?
  intro j
  by_cases hj : i = j
  · subst hj
    rw [List.getElem?_set_self (by rw [q_W_len]; exact hi), q_W_get (q := q') (by rw [List.getElem?_set_self hi])]
  · rw [List.getElem?_set_ne hj]
    cases hg : G[j]? with
    | none =>
      have hlen : G.length ≤ j := by simpa using hg
      rw [List.getElem?_eq_none (by rw [q_W_len]; exact hlen), List.getElem?_eq_none (by rw [q_W_len, List.length_set]; exact hlen)]
    | some r => rw [q_W_get hg, q_W_get (q := r) (by rw [List.getElem?_set_ne hj]; exact hg)]
