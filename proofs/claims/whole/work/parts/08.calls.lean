/-! THE INSTRUCTIONS: switches, copies, calls -/
theorem q_sw_table {β : Type} (f : Nat → Option β) (x : Int32) (r : β) (hi d : Nat) (pc : Nat) (offs : List Int) (dflt : Int) (hd : (pc : Int) + dflt = (d : Int)) :
    ∀ (ks : List (Int32 × Nat)) (lo : Int), ks.length = offs.length → (∀ (j : Nat) (k : Int32 × Nat) (o : Int), ks[j]? = some k → offs[j]? = some o → k.1.toInt = lo + (j : Int) ∧ (pc : Int) + o = (k.2 : Int)) → q_sw f x ks d = some r →
      ((x.toInt < lo ∨ lo + (offs.length : Int) - 1 < x.toInt) ∧ f d = some r) ∨ (∃ (o : Int) (t : Nat), ¬ x.toInt < lo ∧ ¬ lo + (offs.length : Int) - 1 < x.toInt ∧ offs[(x.toInt - lo).toNat]? = some o ∧ (pc : Int) + o = (t : Int) ∧ f t = some r) := by
  induction offs with
  | nil =>
    intro ks lo hl _ h
    have : ks = [] := by cases ks with
      | nil => rfl
      | cons a t => simp at hl
    subst this
    exact Or.inl ⟨by simp only [List.length_nil]; omega, h⟩
  | cons o os ih =>
    intro ks lo hl hk h
    cases ks with
    | nil => simp at hl
    | cons k ks =>
      obtain ⟨k1, k2⟩ := k
      have h0 := hk 0 (k1, k2) o rfl rfl
      simp only [q_sw] at h
      by_cases hx : x = k1
      · rw [if_pos hx] at h
        refine Or.inr ⟨o, k2, ?_, ?_, ?_, h0.2, h⟩
        · rw [hx]; have := h0.1; simp at this; omega
        · rw [hx]; have := h0.1; simp at this; simp only [List.length_cons]; omega
        · have e : (x.toInt - lo).toNat = 0 := by rw [hx]; have := h0.1; simp at this; omega
          rw [e]; rfl
      · rw [if_neg hx] at h
        have hne : ¬ x.toInt = lo := fun q => hx (Int32.toInt_inj.mp (by have := h0.1; simp at this; rw [this]; exact q))
        have hrec := ih ks (lo + 1) (by simpa using hl) (fun j k o' h1 h2 => by
          have := hk (j + 1) k o' (by simpa using h1) (by simpa using h2)
          refine ⟨by have := this.1; push_cast at this; omega, this.2⟩) h
        rcases hrec with ⟨h1, h2⟩ | ⟨o', t, h1, h2, h3, h4, h5⟩
        · refine Or.inl ⟨?_, h2⟩
          simp only [List.length_cons]
          push_cast
          omega
        · refine Or.inr ⟨o', t, by omega, by simp only [List.length_cons]; push_cast; omega, ?_, h4, h5⟩
          have e : (x.toInt - lo).toNat = (x.toInt - (lo + 1)).toNat + 1 := by omega
          rw [e]
          simpa using h3
/-- the keys and targets of a tableswitch are as the bytes have them -/
def q_swOK (pc : Nat) (lo : Int) : List (Int32 × Nat) → List Int → Bool
  | [], [] => true
  | k :: ks, o :: os => (k.1.toInt == lo) && ((pc : Int) + o == (k.2 : Int)) && q_swOK pc (lo + 1) ks os
  | _, _ => false
theorem q_swOK_of (pc : Nat) : ∀ (ks : List (Int32 × Nat)) (os : List Int) (lo : Int), q_swOK pc lo ks os = true → ks.length = os.length ∧ ∀ (j : Nat) (k : Int32 × Nat) (o : Int), ks[j]? = some k → os[j]? = some o → k.1.toInt = lo + (j : Int) ∧ (pc : Int) + o = (k.2 : Int) := by
  intro ks
  induction ks with
  | nil =>
    intro os lo h
    cases os with
    | nil => exact ⟨rfl, fun j k o h1 => by simp at h1⟩
    | cons a t => cases h
  | cons a t ih =>
    intro os lo h
    cases os with
    | nil => cases h
    | cons o os =>
      simp only [q_swOK, Bool.and_eq_true, beq_iff_eq] at h
      obtain ⟨⟨h1, h2⟩, h3⟩ := h
      obtain ⟨g1, g2⟩ := ih os (lo + 1) h3
      refine ⟨by simp [g1], fun j k o' e1 e2 => ?_⟩
      cases j with
      | zero =>
        simp at e1 e2
        subst e1; subst e2
        exact ⟨by simpa using h1, h2⟩
      | succ j =>
        have := g2 j k o' (by simpa using e1) (by simpa using e2)
        exact ⟨by have := this.1; push_cast; omega, this.2⟩
theorem qg_tableswitch {l : Launch} {P : QP} {own : String} {cc : ByteArray} {nL pc : Nat} {ret : Option FieldType} {dflt lo hi : Int} {offs : Array Int} {len d : Nat} {ks : List (Int32 × Nat)} (h : decode cc pc = .ok (.tableswitch dflt lo hi offs, len)) (hhi : hi = lo + (offs.toList.length : Int) - 1) (hd : (pc : Int) + dflt = (d : Int)) (hk : q_swOK pc lo ks offs.toList = true) : QGood l P own cc nL ret pc (qi_sw ks d) := by
  intro p e s m args below meth c R D ty tb base X G C d' cells slots Q cx hC hroom Rt nx rt L S M r he hn hr H locs ls hR hL
  obtain ⟨hx, hb, hml, hown, hts, hSt⟩ := cx
  unfold qi_sw at he
  split at he
  · rename_i x S1
    obtain ⟨g1, g2⟩ := q_swOK_of pc ks offs.toList lo hk
    rcases q_sw_table (fun t => nx t L S1 M) x r 0 d pc offs.toList dflt hd ks lo g1 g2 he with ⟨h1, h2⟩ | ⟨o, t, h1, h2, h3, h4, h5⟩
    · exact lv_tableOut hx hb h (by rw [hhi]; exact h1) hd (hn _ _ _ _ h2 H locs ls hR hL)
    · exact lv_tableIn hx hb h h1 (by rw [hhi]; exact h2) (by rw [← Array.getElem?_toList]; exact h3) h4 (hn _ _ _ _ h5 H locs ls hR hL)
  · cases he
def q_lkOK (pc : Nat) : List (Int32 × Nat) → List (Int × Int) → Bool
  | [], [] => true
  | k :: ks, o :: os => (k.1.toInt == o.1) && ((pc : Int) + o.2 == (k.2 : Int)) && q_lkOK pc ks os
  | _, _ => false
theorem q_sw_lookup {β : Type} (f : Nat → Option β) (x : Int32) (r : β) (d pc : Nat) (dflt : Int) (hd : (pc : Int) + dflt = (d : Int)) :
    ∀ (ks : List (Int32 × Nat)) (ps : List (Int × Int)), q_lkOK pc ks ps = true → q_sw f x ks d = some r → ∃ t : Nat, (pc : Int) + Op.lookupswitch.offset ps dflt x.toInt = (t : Int) ∧ f t = some r := by
  intro ks
  induction ks with
  | nil =>
    intro ps hk h
    cases ps with
    | nil => exact ⟨d, by simpa [Op.lookupswitch.offset] using hd, h⟩
    | cons a t => cases hk
  | cons k ks ih =>
    intro ps hk h
    cases ps with
    | nil => cases hk
    | cons o ps =>
      obtain ⟨k1, k2⟩ := k
      obtain ⟨o1, o2⟩ := o
      simp only [q_lkOK, Bool.and_eq_true, beq_iff_eq] at hk
      obtain ⟨⟨h1, h2⟩, h3⟩ := hk
      simp only [q_sw] at h
      by_cases hx : x = k1
      · rw [if_pos hx] at h
        refine ⟨k2, ?_, h⟩
        rw [Op.lookupswitch.offset_cons, if_pos (by rw [hx]; exact h1.symm)]
        exact h2
      · rw [if_neg hx] at h
        rw [lv_osw hx h1]
        exact ih ps h3 h
theorem qg_lookupswitch {l : Launch} {P : QP} {own : String} {cc : ByteArray} {nL pc : Nat} {ret : Option FieldType} {dflt : Int} {ps : Array (Int × Int)} {len d : Nat} {ks : List (Int32 × Nat)} (h : decode cc pc = .ok (.lookupswitch dflt ps, len)) (hp : (ps.toList.zip (ps.toList.drop 1)).all (fun (a, next) => a.1 < next.1) = true) (hd : (pc : Int) + dflt = (d : Int)) (hk : q_lkOK pc ks ps.toList = true) : QGood l P own cc nL ret pc (qi_sw ks d) := by
  intro p e s m args below meth c R D ty tb base X G C d' cells slots Q cx hC hroom Rt nx rt L S M r he hn hr H locs ls hR hL
  obtain ⟨hx, hb, hml, hown, hts, hSt⟩ := cx
  unfold qi_sw at he
  split at he
  · rename_i x S1
    obtain ⟨t, h1, h2⟩ := q_sw_lookup (fun t => nx t L S1 M) x r d pc dflt hd ks ps.toList hk he
    exact lv_lookup hx hb h hp rfl h1 (hn _ _ _ _ h2 H locs ls hR hL)
  · cases he
/-- a copy -/
def q_cpw (own : String) (index : Nat) : Prop := Cond.methodLink own index arraycopyName ∈ q_GW ∧ Cond.native arraycopyName ∈ q_GW ∧ Cond.static arraycopyName ∈ q_GW ∧ Cond.initialized "java/lang/System" ∈ q_GW
theorem qg_copy {l : Launch} {P : QP} {own : String} {cc : ByteArray} {nL pc : Nat} {ret : Option FieldType} {index : Nat} (hw : q_cpw own index) (h : decode cc pc = .ok (.invokestatic index, 3)) : QGood l P own cc nL ret pc (qi_copy (pc + 3)) := by
  intro p e s m args below meth c R D ty tb base X G C d' cells slots Q cx hC hroom Rt nx rt L S M r he hn hr H locs ls hR hL
  obtain ⟨hx, hb, hml, hown, hts, hSt⟩ := cx
  unfold qi_copy at he
  split at he
  · rename_i n dp a sp a0 S1
    obtain ⟨hcat, he⟩ := q_cond he
    have hcat := Nat.le_of_ble_eq_true hcat
    unfold q_cpy at he
    split at he
    · rename_i k0 n0 r0 k1 n1 r1 hq0 hq1
      split at he
      · cases he
      · rename_i hin
        have c1 : ¬ sp < 0 := fun q => hin (Or.inl q)
        have c2 : ¬ dp < 0 := fun q => hin (Or.inr (Or.inl q))
        have c3 : ¬ n < 0 := fun q => hin (Or.inr (Or.inr (Or.inl q)))
        have c4 : sp.toNatClampNeg + n.toNatClampNeg ≤ n0 := Nat.not_lt.mp fun q => hin (Or.inr (Or.inr (Or.inr (Or.inl q))))
        have c5 : dp.toNatClampNeg + n.toNatClampNeg ≤ n1 := Nat.not_lt.mp fun q => hin (Or.inr (Or.inr (Or.inr (Or.inr q))))
        have hw1 : (((S1.map (q_rv tb base)).map fun v => v.category).sum + (nativeFrameWords "java/lang/System" "arraycopy" 5 + 11) ≤ R.locals) := by
          rw [q_cat_eq]
          have e : nativeFrameWords "java/lang/System" "arraycopy" 5 + 11 ≤ 32 := by decide +kernel
          omega
        cases h1 : (k0 == 10 && k1 == 10)
        · rw [h1] at he
          obtain ⟨h2, he⟩ := q_cond (show cond (k0 == 11 && k1 == 11) _ none = some r from he)
          rw [Bool.and_eq_true] at h2
          obtain ⟨j0, rfl, hG0, hkd0⟩ := q_arrAt hq0 h2.1 (by decide)
          obtain ⟨j1, rfl, hG1, hkd1⟩ := q_arrAt hq1 h2.2 (by decide)
          have hat0 := q_W_get (ty := ty) (tb := tb) (base := base) (M := M) hG0
          have hat1 := q_W_get (ty := ty) (tb := tb) (base := base) (M := M) hG1
          rw [q_ent_l hkd0] at hat0
          rw [q_ent_l hkd1] at hat1
          simp only [List.map_cons, q_rv, q_rho_hi]
          refine va_copyl hx hb (hml.trans hL.1.1.symm) hown (hts _ hw.1) (hts _ hw.2.1) (hts _ hw.2.2.1) (hts _ hw.2.2.2) hSt.1 hR.1 q_D hR.2 j0 j1 1 1 hat0 hat1 (ty := .long) rfl rfl rfl c1 c2 c3 c4 c5 (fun _ _ => rfl) (by omega) hw1 h (fun H1 locs1 hP1 _ hS1 => ?_)
          rw [q_W_set (M := M) (M' := (M.1, q_uc M.2 (j1 + 4) (va_cpy (M.2 (j0 + 4)) (M.2 (j1 + 4)) sp.toNatClampNeg dp.toNatClampNeg n.toNatClampNeg))) hG1 (fun a ha => ⟨rfl, q_uc_ne _ _ ha⟩) (by rw [q_ent_l hkd1]; simp only [q_uc_eq])] at hP1
          exact hn _ _ _ _ he H1 locs1 ls ⟨hP1, hS1⟩ hL
        · rw [h1] at he
          rw [Bool.and_eq_true] at h1
          obtain ⟨j0, rfl, hG0, hkd0⟩ := q_arrAt hq0 h1.1 (by decide)
          obtain ⟨j1, rfl, hG1, hkd1⟩ := q_arrAt hq1 h1.2 (by decide)
          have hat0 := q_W_get (ty := ty) (tb := tb) (base := base) (M := M) hG0
          have hat1 := q_W_get (ty := ty) (tb := tb) (base := base) (M := M) hG1
          rw [q_ent_i hkd0] at hat0
          rw [q_ent_i hkd1] at hat1
          simp only [List.map_cons, q_rv, q_rho_hi]
          refine va_copyi hx hb (hml.trans hL.1.1.symm) hown (hts _ hw.1) (hts _ hw.2.1) (hts _ hw.2.2.1) (hts _ hw.2.2.2) hSt.1 hR.1 q_D hR.2 j0 j1 0 0 hat0 hat1 (ty := .int) rfl rfl rfl c1 c2 c3 c4 c5 (fun _ _ => rfl) (by omega) hw1 h (fun H1 locs1 hP1 _ hS1 => ?_)
          rw [q_W_set (M := M) (M' := (q_uc M.1 (j1 + 4) (va_cpy (M.1 (j0 + 4)) (M.1 (j1 + 4)) sp.toNatClampNeg dp.toNatClampNeg n.toNatClampNeg), M.2)) hG1 (fun a ha => ⟨q_uc_ne _ _ ha, rfl⟩) (by rw [q_ent_i hkd1]; simp only [q_uc_eq])] at hP1
          exact hn _ _ _ _ he H1 locs1 ls ⟨hP1, hS1⟩ hL
    · cases he
  · cases he
