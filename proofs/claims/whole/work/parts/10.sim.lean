/-! EVERY RUN OF THE CLEAN MACHINE IS A RUN OF THE REAL ONE -/
theorem q_args_len (tb : Nat → Nat) (base : Nat) (as : List Value) : (lg_sl (as.map (q_rv tb base))).length = (q_args as).length := by
  induction as with
  | nil => rfl
  | cons v t ih =>
    have e : lg_sl ((v :: t).map (q_rv tb base)) = (if (q_rv tb base v).category = 2 then [.val (q_rv tb base v), .second] else [.val (q_rv tb base v)]) ++ lg_sl (t.map (q_rv tb base)) := by
      simp [lg_sl]
    rw [e, List.length_append, ih, q_rv_cat]
    cases v <;> simp [q_args, Value.category] <;> omega
theorem q_args_get (tb : Nat → Nat) (base : Nat) (n : Nat) (as : List Value) : ∀ (i0 j : Nat) (v : Value), q_get (q_args as ++ List.replicate n none) j = some v → (i0 + j, q_rv tb base v) ∈ lv_args i0 (as.map (q_rv tb base)) := by
  have hrep : ∀ (n j : Nat), q_get (List.replicate n none) j = none := by
    intro n
    induction n with
    | zero => intro j; rfl
    | succ n ih => intro j; cases j with
      | zero => rfl
      | succ j => exact ih j
  induction as with
  | nil =>
    intro i0 j v h
    simp only [q_args, List.nil_append, hrep] at h
    cases h
  | cons a t ih =>
    intro i0 j v h
    by_cases hc : a.category = 2
    · have e : q_args (a :: t) = some a :: none :: q_args t := by
        cases a <;> simp [Value.category] at hc <;> rfl
      rw [e] at h
      have hc2 : (q_rv tb base a).category = 2 := by rw [q_rv_cat]; exact hc
      simp only [List.map_cons, lv_args, hc2, if_true]
      match j, h with
      | 0, h =>
        simp only [List.cons_append, q_get, Option.some.injEq] at h
        subst h
        exact List.mem_cons_self
      | 1, h => simp [q_get] at h
      | j + 2, h =>
        have h3 := ih (i0 + 2) j v (by simpa [q_get] using h)
        rw [show i0 + (j + 2) = i0 + 2 + j by omega]
        exact List.mem_cons_of_mem _ h3
    · have e : q_args (a :: t) = some a :: q_args t := by
        cases a <;> simp [Value.category] at hc <;> rfl
      rw [e] at h
      have hc2 : ¬ (q_rv tb base a).category = 2 := by rw [q_rv_cat]; exact hc
      simp only [List.map_cons, lv_args, hc2, if_false]
      match j, h with
      | 0, h =>
        simp only [List.cons_append, q_get, Option.some.injEq] at h
        subst h
        exact List.mem_cons_self
      | j + 1, h =>
        have h3 := ih (i0 + 1) j v (by simpa [q_get] using h)
        rw [show i0 + (j + 1) = i0 + 1 + j by omega]
        exact List.mem_cons_of_mem _ h3
section QSIM
variable {p : Program} {l : Launch} {e : Env} {R : Room} {s : State} {m : MethodId} {args : Array Value} {below : List Frame} {meth : Method} {c : Code} {D : va_G} {ty : QTy} {tb : Nat → Nat} {base nL : Nat} {G : QG} {cells slots : Nat} {Q : State → Prop} {X : QX} {C : QC} {d : Nat} {P : QP} {own : String} {cc : ByteArray} {ret : Option FieldType} {cd : Nat → Option QE} {ct : Nat → Option (List Bool)}
theorem q_in_sim {K : Nat → QL → List Value → QM → Option (Option Value × QM)} {r : Option Value × QM} (hg : ∀ pc E, cd pc = some E → QGood l P own cc nL ret pc E)
    (cx : QCx D ty tb base X p s m args c own cc nL) (hC : QCok l P D ty tb base X G C d) (hroom : d + 1 ≤ R.frames ∧ 40 * (d + 1) ≤ R.locals ∧ cells ≤ R.cells ∧ slots ≤ R.slots ∧ s.heap.size + cells = base + G.length ∧ base ≤ s.heap.size)
    (hK : ∀ pc L S M, K pc L S M = some r → QW p l e R s m args below meth c D ty tb base nL G cells slots Q pc L S M)
    (hr : QRt p l e R s m args below meth c D ty tb base G cells slots Q cc ret r.1 r.2) :
    ∀ (f pc : Nat) (L : QL) (S : List Value) (M : QM), q_in G X C cd ct K f pc L S M = some r → QW p l e R s m args below meth c D ty tb base nL G cells slots Q pc L S M := by
  intro f
  induction f with
  | zero => intro pc L S M h; cases h
  | succ f ih =>
    intro pc L S M h
    unfold q_in at h
    split at h
    · cases h
    · rename_i E hE
      refine hg pc E hE p e s m args below meth c R D ty tb base X G C d cells slots Q cx hC hroom _ _ _ L S M r h ?_ ?_
      · intro pc' L' S' M' h'
        split at h'
        · exact ih pc' L' S' M' h'
        · intro H locs ls hR hL
          exact hK _ _ _ _ h' H locs ls hR (hL.mask _)
      · intro v M' h'
        cases h'
        exact hr
theorem q_out_sim {r : Option Value × QM} (hg : ∀ pc E, cd pc = some E → QGood l P own cc nL ret pc E)
    (cx : QCx D ty tb base X p s m args c own cc nL) (hC : QCok l P D ty tb base X G C d) (hroom : d + 1 ≤ R.frames ∧ 40 * (d + 1) ≤ R.locals ∧ cells ≤ R.cells ∧ slots ≤ R.slots ∧ s.heap.size + cells = base + G.length ∧ base ≤ s.heap.size)
    (hr : QRt p l e R s m args below meth c D ty tb base G cells slots Q cc ret r.1 r.2) :
    ∀ (n pc : Nat) (L : QL) (S : List Value) (M : QM), q_out G X C cd ct n pc L S M = some r → QW p l e R s m args below meth c D ty tb base nL G cells slots Q pc L S M := by
  intro n
  induction n with
  | zero => intro pc L S M h; cases h
  | succ n ih =>
    intro pc L S M h
    unfold q_out at h
    exact q_in_sim hg cx hC hroom ih hr 400 pc L S M h
end QSIM
/-- the code's rows of every method are good -/
def QProg (l : Launch) (P : QP) (cd : Nat → Nat → Option QE) : Prop := ∀ k pc E, cd k pc = some E → plainName (P k).1.cls = true ∧ QGood l P (P k).1.cls (P k).2.1 (P k).2.2.1 (P k).2.2.2 pc E
theorem q_entry_lr (tb : Nat → Nat) (base nL : Nat) (as : List Value) (h : (q_args as).length ≤ nL) : QLR tb base nL ((lg_sl (as.map (q_rv tb base)) ++ List.replicate (nL - (lg_sl (as.map (q_rv tb base))).length) Slot.unset).toArray) (q_entry nL as) := by
  have hl := lv_entry (as.map (q_rv tb base)) (n := nL) (by rw [q_args_len]; exact h)
  refine ⟨⟨hl.1, hl.2.1, fun q hq => by cases hq⟩, fun i v hv => ?_⟩
  have h1 := q_args_get tb base (nL - (q_args as).length) as 0 i v hv
  rw [Nat.zero_add] at h1
  exact hl.2.2 _ h1
theorem q_sim {l : Launch} {P : QP} {cd : Nat → Nat → Option QE} {ct : Nat → Nat → Option (List Bool)} (hP : QProg l P cd) {D : va_G} {ty : QTy} {tb : Nat → Nat} {base : Nat} {X : QX} {G : QG} : ∀ d : Nat, QCok l P D ty tb base X G (q_call P cd ct G X d) d := by
  intro d
  induction d with
  | zero => intro k as M v M' h; cases h
  | succ d ih =>
    intro k as M v M' h
    obtain ⟨hlen, h⟩ := q_cond (show cond (Nat.ble (q_args as).length (P k).2.2.1) _ none = _ from h)
    have hlen := Nat.le_of_ble_eq_true hlen
    have hpl : plainName (P k).1.cls = true := by
      have h2 := h
      rw [show qN = 999999 + 1 from rfl] at h2
      unfold q_out at h2
      rw [show (400 : Nat) = 399 + 1 from rfl] at h2
      unfold q_in at h2
      split at h2
      · cases h2
      · rename_i E hE
        exact (hP k 0 E hE).1
    refine Met.ofW (cc := (P k).2.1) (maxL := (P k).2.2.1) (ret := (P k).2.2.2) hpl rfl ?_
    intro p e s m args below meth c s₁ B hml hv
    obtain ⟨rfl, hSt, hPw, hsz⟩ := hv
    have hts : ∀ w ∈ q_GW, w.before _ s = true := fun w hw => atoms_spec (ws := q_ws P k) B.pre w (List.mem_cons_of_mem _ hw)
    have hown : s.vm.findClass (P k).1.cls = some m.cls := findClass_of_methodNamed B.named
    have cx : QCx D ty tb base X p s m (as.map (q_rv tb base)).toArray c (P k).1.cls (P k).2.1 (P k).2.2.1 := ⟨B.exec, B.bytes, hml, hown, hts, hSt⟩
    rw [lg_entry_eq]
    refine q_out_sim (r := (v, M')) (fun pc E hE => (hP k pc E hE).2) cx ih ⟨Nat.le_refl _, Nat.le_refl _, Nat.zero_le _, Nat.zero_le _, by rw [hsz]; rfl, by omega⟩ ?_ qN 0 (q_entry (P k).2.2.1 as) [] M h s.heap [] _ ⟨hPw, va_S.rf⟩ (q_entry_lr tb base _ as hlen)
    intro hok pcr H locs ls hR hd
    have hq : ∀ t : State, t.heap = H → s.WarmedH t.vm → QQ D ty tb base v G M' (as.map (q_rv tb base)).toArray s (.returned (v.map (q_rv tb base))) t := fun t ht _ => ⟨rfl, by rw [ht]; exact hR.1, hR.2.F ht⟩
    cases v with
    | none => exact W.vret B.exec B.bytes (B.returns.trans hok) hq hR.2.2.2 hd
    | some v =>
      cases v with
      | int x =>
        rcases hok with hok | ⟨hok, hx⟩
        · exact W.iret B.exec B.bytes (B.returns.trans hok) hq hR.2.2.2 hd
        · exact W.zret B.exec B.bytes (B.returns.trans hok) (q_nar hx) hq hR.2.2.2 hd
      | long x => exact W.lret B.exec B.bytes (B.returns.trans hok) hq hR.2.2.2 hd
      | ref a =>
        obtain ⟨n, hok⟩ := hok
        exact W.aret B.exec B.bytes (B.returns.trans hok) (Or.inl ⟨n, rfl⟩) (Or.inr ⟨_, rfl⟩) hq hR.2.2.2 hd
      | null =>
        obtain ⟨n, hok⟩ := hok
        exact W.aret B.exec B.bytes (B.returns.trans hok) (Or.inl ⟨n, rfl⟩) (Or.inl rfl) hq hR.2.2.2 hd
      | _ => exact absurd hok (by intro z; exact z)
