/-! THE CONTEXT OF A FRAME, and what an instruction of the clean machine must be of the real one -/
def q_GW : List Cond := lw_tbl.filter goodWord
def q_nest (w : Cond) : Bool := match w with
  | .fieldLinkNest _ _ _ _ _ _ => true
  | .methodLinkNest _ _ _ _ => true
  | _ => false
def q_NW : List Cond := lw_tbl.filter q_nest
def q_zc (j : Nat) : String := match j with
  | 0 => "RungByHeart"
  | _ => "RungByHeart$Strokes"
def q_zn (j : Nat) : String := match j with
  | 0 => "MOST"
  | 1 => "ABOVE"
  | _ => "OWN"
def q_A (base : Nat) : Nat → Prop := fun q => base ≤ q
def QSt (D : va_G) (ty : QTy) (tb : Nat → Nat) (base : Nat) (X : QX) (U : State) : Prop :=
  va_K D vwCl (q_tys ty) U ∧ (∀ j, j < 4 → va_T .int (tb j) (X.1 j) (fun i => .int (X.2 j i)) (q_A base) U U.heap) ∧ (∀ j, j < 3 → va_Z (q_zc j) (q_zn j) "[I" (.ref (tb j)) (q_A base) U U.heap) ∧ (∀ w ∈ q_NW, va_Nw w U) ∧ va_AO "RungByHeart$Shelf" U
def QWld (D : va_G) (ty : QTy) (tb : Nat → Nat) (base : Nat) (X : QX) (G : QG) (M : QM) (U : State) : Prop :=
  QSt D ty tb base X U ∧ va_P D vwCl (q_W ty tb base G M) U.heap ∧ U.heap.size = base + G.length
def QRel (D : va_G) (ty : QTy) (tb : Nat → Nat) (base : Nat) (G : QG) (M : QM) (H0 H : Heap) (locs : List Loc) : Prop :=
  va_P D vwCl (q_W ty tb base G M) H ∧ va_S (q_A base) H0 H locs
def QQ (D : va_G) (ty : QTy) (tb : Nat → Nat) (base : Nat) (v : Option Value) (G : QG) (M : QM) : Array Value → State → Outcome → State → Prop :=
  fun _ st oc t => oc = .returned (v.map (q_rv tb base)) ∧ va_P D vwCl (q_W ty tb base G M) t.heap ∧ va_F (q_A base) st t
theorem q_D {ty : QTy} {tb : Nat → Nat} {base : Nat} {G : QG} {M : QM} : va_D (q_A base) (q_W ty tb base G M) := by
  have key : ∀ (i : Nat) (q : Nat × va_E), (q_W ty tb base G M)[i]? = some q → q.1 = base + i := by
    intro i q h
    cases hg : G[i]? with
    | none => simp [q_W, List.getElem?_mapIdx, hg] at h
    | some r =>
      rw [q_W_get hg] at h
      cases h
      rfl
  refine ⟨fun i j p q hi hj hpq => ?_, fun k q hk => ?_⟩
  · have h1 := key i p hi
    have h2 := key j q hj
    omega
  · have h1 := key k q hk
    show base ≤ q.1
    omega
theorem q_nest_tabs {w : Cond} (h : w ∈ q_NW) : w.onTables = true := by
  have h1 := (List.mem_filter.mp h).2
  cases w <;> first | rfl | cases h1
theorem q_nest_warm {w : Cond} (h : w ∈ q_NW) {s U : State} (hW : s.WarmedH U.vm) (hZ : va_Nw w s) : va_Nw w U := by
  have h1 := (List.mem_filter.mp h).2
  cases w <;> first | exact va_Nw.warmF hW hZ | exact va_Nw.warmM hW hZ | cases h1
theorem QSt.call {D : va_G} {ty : QTy} {tb : Nat → Nat} {base : Nat} {X : QX} {s U : State} {H : Heap} {locs : List Loc} (h : QSt D ty tb base X s) (hS : va_S (q_A base) s.heap H locs) (hU : U.heap = H) (hW : s.WarmedH U.vm) : QSt D ty tb base X U := by
  obtain ⟨hK, hT, hZ, hN, hO⟩ := h
  have hk : ∀ a : Nat, a < s.heap.size → ¬ q_A base a → U.heap[a]? = s.heap[a]? := fun a h1 h2 => by rw [hU]; exact hS.2.1 a h1 h2
  exact ⟨va_K.moved hW.alike hK, fun j hj => ((hT j hj).moved hW.alike).kept hk, fun j hj => ((hZ j hj).moved hW.alike).kept hk, fun w hw => q_nest_warm hw hW (hN w hw), va_AO.moved hW.alike hO⟩
theorem QSt.same {D : va_G} {ty : QTy} {tb : Nat → Nat} {base : Nat} {X : QX} {s U : State} (h : QSt D ty tb base X s) (hU : U.heap = s.heap) (hv : U.vm = s.vm) : QSt D ty tb base X U := by
  obtain ⟨hK, hT, hZ, hN, hO⟩ := h
  have ha : s.vm.Alike U.vm := by rw [hv]; exact Vm.Alike.refl _
  have hk : ∀ a : Nat, a < s.heap.size → ¬ q_A base a → U.heap[a]? = s.heap[a]? := fun a _ _ => by rw [hU]
  exact ⟨va_K.moved ha hK, fun j hj => ((hT j hj).moved ha).kept hk, fun j hj => ((hZ j hj).moved ha).kept hk, fun w hw => (hN w hw).same (q_nest_tabs hw) hv.symm, va_AO.moved ha hO⟩
theorem q_blind {D : va_G} {ty : QTy} {tb : Nat → Nat} {base : Nat} {X : QX} {G : QG} {M : QM} (av : List Value) : FrameBlind (va_Pc av (QWld D ty tb base X G M)) := by
  intro a U g mk h
  exact ⟨h.1, h.2.1.same (U := U.calling g mk a) rfl rfl, h.2.2.1, h.2.2.2⟩
def q_ws (P : QP) (k : Nat) : List Cond := Cond.code (P k).1 (P k).2.1 (P k).2.2.1 (P k).2.2.2 :: q_GW
def q_rm (d mc ms : Nat) : Room := { frames := d, cells := mc, slots := ms, locals := 40 * d }
def QCok (l : Launch) (P : QP) (D : va_G) (ty : QTy) (tb : Nat → Nat) (base : Nat) (X : QX) (G : QG) (C : QC) (d : Nat) : Prop :=
  ∀ (k : Nat) (as : List Value) (M : QM) (v : Option Value) (M' : QM), C k as M = some (v, M') → Met l (P k).1 (q_ws P k) (q_rm d 0 0) (va_Pc (as.map (q_rv tb base)) (QWld D ty tb base X G M)) (QQ D ty tb base v G M') 0 0 (q_A base)
def QCx (D : va_G) (ty : QTy) (tb : Nat → Nat) (base : Nat) (X : QX) (p : Program) (s : State) (m : MethodId) (args : Array Value) (c : Code) (own : String) (cc : ByteArray) (nL : Nat) : Prop :=
  p.tables.exec = Jvm.exec ∧ c.code = cc ∧ c.maxLocals = nL ∧ s.vm.findClass own = some m.cls ∧ (∀ w ∈ q_GW, w.before args s = true) ∧ QSt D ty tb base X s
def q_retOK (ret : Option FieldType) (v : Option Value) : Prop := match v with
  | none => ret = none
  | some (.int x) => ret = some .int ∨ (ret = some .boolean ∧ (x = 0 ∨ x = 1))
  | some (.long _) => ret = some .long
  | some (.ref _) => ∃ n, ret = some (.object n)
  | some .null => ∃ n, ret = some (.object n)
  | _ => False
def q_retI (v : Option Value) : Instr := match v with
  | none => .return_
  | some (.int _) => .ireturn
  | some (.long _) => .lreturn
  | _ => .areturn
section QWs
variable (p : Program) (l : Launch) (e : Env) (R : Room) (s : State) (m : MethodId) (args : Array Value) (below : List Frame) (meth : Method) (c : Code) (D : va_G) (ty : QTy) (tb : Nat → Nat) (base nL : Nat) (G : QG) (cells slots : Nat) (Q : State → Prop)
def QW (pc : Nat) (L : QL) (S : List Value) (M : QM) : Prop := ∀ (H : Heap) (locs : List Loc) (ls : Array Slot), QRel D ty tb base G M s.heap H locs → QLR tb base nL ls L →
  W p l e R s m args below meth c H locs cells slots Q (F0 m pc ls (S.map (q_rv tb base)))
def QRt (cc : ByteArray) (ret : Option FieldType) (v : Option Value) (M : QM) : Prop := q_retOK ret v → ∀ (pcr : Nat) (H : Heap) (locs : List Loc) (ls : Array Slot), QRel D ty tb base G M s.heap H locs → decode cc pcr = .ok (q_retI v, 1) →
  W p l e R s m args below meth c H locs cells slots Q (F0 m pcr ls ((v.map (q_rv tb base)).toList))
end QWs
/-- an entry of the clean code at pc stands for the real code's instruction there -/
def QGood (l : Launch) (P : QP) (own : String) (cc : ByteArray) (nL : Nat) (ret : Option FieldType) (pc : Nat) (E : QE) : Prop :=
  ∀ (p : Program) (e : Env) (s : State) (m : MethodId) (args : Array Value) (below : List Frame) (meth : Method) (c : Code) (R : Room) (D : va_G) (ty : QTy) (tb : Nat → Nat) (base : Nat) (X : QX) (G : QG) (C : QC) (d cells slots : Nat) (Q : State → Prop),
    QCx D ty tb base X p s m args c own cc nL → QCok l P D ty tb base X G C d → (d + 1 ≤ R.frames ∧ 40 * (d + 1) ≤ R.locals ∧ cells ≤ R.cells ∧ slots ≤ R.slots ∧ s.heap.size + cells = base + G.length ∧ base ≤ s.heap.size) →
    ∀ (Rt : Type) (nx : Nat → QL → List Value → QM → Option Rt) (rt : Option Value → QM → Option Rt) (L : QL) (S : List Value) (M : QM) (r : Rt), E G X C Rt nx rt L S M = some r →
      (∀ pc' L' S' M', nx pc' L' S' M' = some r → QW p l e R s m args below meth c D ty tb base nL G cells slots Q pc' L' S' M') →
      (∀ v M', rt v M' = some r → QRt p l e R s m args below meth c D ty tb base G cells slots Q cc ret v M') →
      QW p l e R s m args below meth c D ty tb base nL G cells slots Q pc L S M
theorem q_size {p : Program} {l : Launch} {e : Env} {R : Room} {s : State} {m : MethodId} {args : Array Value} {below : List Frame} {meth : Method} {c : Code} {H : Heap} {locs : List Loc} {cells slots : Nat} {Q : State → Prop} {g : JFrame}
    (h : H.size ≤ s.heap.size + cells → W p l e R s m args below meth c H locs cells slots Q g) : W p l e R s m args below meth c H locs cells slots Q g := by
  intro T hT X
  exact h (by rw [← hT]; exact X.heapSize) T hT X
theorem q_lb {D : va_G} {ty : QTy} {tb : Nat → Nat} {base : Nat} {G : QG} {M : QM} {H : Heap} (hP : va_P D vwCl (q_W ty tb base G M) H) (hb : base ≤ H.size) : base + G.length ≤ H.size := by
  cases hl : G.length with
  | zero => omega
  | succ n =>
    have hn : n < G.length := by omega
    have h1 := (hP n _ (q_W_get (List.getElem?_eq_getElem hn))).lt
    have h2 : base + n < H.size := h1
    omega
theorem q_after {p : Program} {l : Launch} {e : Env} {R : Room} {s : State} {m : MethodId} {args : Array Value} {below : List Frame} {meth : Method} {c : Code} {H : Heap} {locs : List Loc} {cells slots mc ms : Nat} {Q : State → Prop} {D : va_G} {ty : QTy} {tb : Nat → Nat} {base : Nat} {G' : QG} {M' : QM} {v : Option Value} {pc : Nat} {ls : Array Slot} {st0 rest : List Value} {a : Array Value}
    (hr : va_Run p l e R s m args below meth c H locs cells slots mc ms (F0 m pc ls st0) rest (QQ D ty tb base v G' M' a) (q_A base)) (hS : va_S (q_A base) s.heap H locs)
    (kk : ∀ (H1 : Heap) (locs1 : List Loc), QRel D ty tb base G' M' s.heap H1 locs1 → W p l e R s m args below meth c H1 locs1 (cells + mc) (slots + ms) Q (F0 m (pc + 3) ls ((v.map (q_rv tb base)).toList ++ rest))) :
    W p l e R s m args below meth c H locs cells slots Q (F0 m pc ls st0) := by
  intro T hT X
  obtain ⟨v1, st₀, t, T', L, h0, X', hL, e1, e2, ⟨hv, hP, hz, hk⟩, st⟩ := hr T hT X
  cases hv
  rw [h0] at hz hk
  obtain ⟨t2, a1, b1⟩ := kk T'.heap (locs ++ L) ⟨by rw [e1]; exact hP, ⟨Nat.le_trans hS.1 (by rw [e1]; exact hz), fun q h1 h2 => by rw [e1, hk q (Nat.lt_of_lt_of_le h1 hS.1) h2]; exact hS.2.1 q h1 h2, fun q hq => by
      rcases List.mem_append.mp hq with h | h
      · exact hS.2.2 q h
      · exact hL q h⟩⟩ T' rfl X'
  exact ⟨t2, st t2 a1, b1⟩
theorem q_cell_cases {G : QG} {X : QX} {a : Nat} {q : QCell} (h : q_cell G X a = some q) : (a < 4 ∧ q = (14, X.1 a, [])) ∨ ∃ i, a = i + 4 ∧ G[i]? = some q := by
  match a, h with
  | 0, h => cases h; exact Or.inl ⟨by omega, rfl⟩
  | 1, h => cases h; exact Or.inl ⟨by omega, rfl⟩
  | 2, h => cases h; exact Or.inl ⟨by omega, rfl⟩
  | 3, h => cases h; exact Or.inl ⟨by omega, rfl⟩
  | i + 4, h => exact Or.inr ⟨i, rfl, by rw [← q_lk_get]; exact h⟩
theorem q_rho_hi (tb : Nat → Nat) (base i : Nat) : q_rho tb base (i + 4) = base + i := by
  have h : ¬ i + 4 < 4 := by omega
  simp [q_rho, h]
theorem q_rho_lo (tb : Nat → Nat) (base : Nat) {a : Nat} (h : a < 4) : q_rho tb base a = tb a := by simp [q_rho, h]
theorem q_cat_eq (tb : Nat → Nat) (base : Nat) (S : List Value) : ((S.map (q_rv tb base)).map fun v => v.category).sum = q_cat S := by
  induction S with
  | nil => rfl
  | cons v t ih =>
    simp only [List.map_cons, List.sum_cons, q_rv_cat, ih]
    cases v <;> simp [q_cat, Value.category] <;> omega
theorem q_pop_of {β : Type} (n : Nat) (S acc : List Value) (f : List Value → List Value → Option β) (r : β) (h : q_pop n S acc f = some r) : ∃ as rest, as.length = n ∧ S = as.reverse ++ rest ∧ f (as ++ acc) rest = some r := by
  induction n generalizing S acc with
  | zero => exact ⟨[], S, rfl, rfl, h⟩
  | succ n ih => cases S with
    | nil => cases h
    | cons v S =>
      obtain ⟨as, rest, h1, h2, h3⟩ := ih S (v :: acc) h
      exact ⟨as ++ [v], rest, by simp [h1], by simp [h2], by simpa using h3⟩
