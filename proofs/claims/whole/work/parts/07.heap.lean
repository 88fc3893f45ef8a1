/-! THE INSTRUCTIONS: fields, arrays, statics, switches, returns -/
/-- what the field rows want of a class -/
def QCls (ci : Nat) (C : String) (T : u_T) (N : Nat) (ty0 : Nat → FieldType) : Prop := vwCl[ci]? = some (C, T, N) ∧ ci < 10 ∧ (∀ k, k < N → parseFieldDescriptor (T k).2.2.1 = some (ty0 k)) ∧ (∀ a, a < N → ∀ b, b < N → a ≠ b → (T a).2.1 ≠ (T b).2.1) ∧ ∀ w ∈ u_ws C T N, w ∈ q_GW
def q_lnk (own : String) (index : Nat) (T : u_T) (k : Nat) : Prop := Cond.fieldLink own index (T k).1 (T k).2.1 (T k).2.2.1 ∈ q_GW ∨ ∃ host, Cond.fieldLinkNest own index (T k).1 (T k).2.1 (T k).2.2.1 host ∈ q_NW
theorem q_objAt {G : QG} {X : QX} {a ci : Nat} {q : QCell} (h : q_cell G X a = some q) (hk : (q.1 == ci) = true) (hc : ci < 10) : ∃ i, a = i + 4 ∧ G[i]? = some q ∧ q.1 = ci := by
  have hk' : q.1 = ci := by simpa using hk
  rcases q_cell_cases h with ⟨-, rfl⟩ | ⟨i, h1, h2⟩
  · exact absurd (show 14 = ci from hk') (by omega)
  · exact ⟨i, h1, h2, hk'⟩
theorem q_arrAt {G : QG} {X : QX} {a kd : Nat} {q : QCell} (h : q_cell G X a = some q) (hk : (q.1 == kd) = true) (hc : kd < 14) : ∃ i, a = i + 4 ∧ G[i]? = some q ∧ q.1 = kd := by
  have hk' : q.1 = kd := by simpa using hk
  rcases q_cell_cases h with ⟨-, rfl⟩ | ⟨i, h1, h2⟩
  · exact absurd (show 14 = kd from hk') (by omega)
  · exact ⟨i, h1, h2, hk'⟩
theorem q_ent_obj {ty : QTy} {tb : Nat → Nat} {base : Nat} {M : QM} {a ci : Nat} {q : QCell} (hk : q.1 = ci) (hc : ci < 10) : q_ent ty tb base M a q = .inr (ci, (List.range (q_nf ci)).map (q_fv tb base M a ci q.2.2)) := by
  subst hk
  unfold q_ent
  rw [if_pos hc]
theorem q_ent_i {ty : QTy} {tb : Nat → Nat} {base : Nat} {M : QM} {a : Nat} {q : QCell} (hk : q.1 = 10) : q_ent ty tb base M a q = .inl (ty.1, q.2.1, .inl (M.1 a)) := by
  unfold q_ent
  rw [hk]
  rfl
theorem q_ent_l {ty : QTy} {tb : Nat → Nat} {base : Nat} {M : QM} {a : Nat} {q : QCell} (hk : q.1 = 11) : q_ent ty tb base M a q = .inl (ty.2.1, q.2.1, .inr (.inl (M.2 a))) := by
  unfold q_ent
  rw [hk]
  rfl
theorem q_ent_z {ty : QTy} {tb : Nat → Nat} {base : Nat} {M : QM} {a : Nat} {q : QCell} (hk : q.1 = 12) : q_ent ty tb base M a q = .inl (ty.2.2.1, q.2.1, .inl (M.1 a)) := by
  unfold q_ent
  rw [hk]
  rfl
theorem q_ent_q {ty : QTy} {tb : Nat → Nat} {base : Nat} {M : QM} {a : Nat} {q : QCell} (hk : 13 ≤ q.1) : q_ent ty tb base M a q = .inl (ty.2.2.2, q.2.1, .inr (.inr (.inr (.inr (fun j => (q_nth q.2.2 j).map (q_rho tb base)))))) := by
  unfold q_ent
  rw [if_neg (by omega), if_neg (by omega), if_neg (by omega), if_neg (by omega)]
theorem q_nf_of {ci : Nat} {C : String} {T : u_T} {N : Nat} {ty0 : Nat → FieldType} (h : QCls ci C T N ty0) : q_nf ci = N := by
  unfold q_nf
  rw [h.1]
theorem q_fs_set (tb : Nat → Nat) (base : Nat) (M : QM) (a ci n k : Nat) (rs : List (Option Nat)) (v : Int32) (hf : q_fi ci k = true) : ((List.range n).map (q_fv tb base M a ci rs)).set k (.int v) = (List.range n).map (q_fv tb base (q_up M.1 a k v, M.2) a ci rs) := by
  apply List.ext_getElem?
  intro j
  by_cases hj : k = j
  · subst hj
    by_cases hk : k < n
    · rw [List.getElem?_set_self (by simpa using hk)]
      simp [List.getElem?_range, hk, q_fv, hf, q_up]
    · rw [List.getElem?_eq_none (by simp; omega), List.getElem?_eq_none (by simp; omega)]
  · rw [List.getElem?_set_ne hj]
    by_cases hk : j < n
    · have hj' : ¬ j = k := fun h => hj h.symm
      simp [List.getElem?_range, hk, q_fv, q_up, hj']
    · rw [List.getElem?_eq_none (by simp; omega), List.getElem?_eq_none (by simp; omega)]
theorem q_up_ne {α : Type} (h : Nat → Nat → α) {a a' k : Nat} (v : α) (hn : a' ≠ a) : q_up h a k v a' = h a' := by
  funext k'
  simp [q_up, hn]
theorem q_up_eq {α : Type} (h : Nat → Nat → α) (a k : Nat) (v : α) : q_up h a k v a = fun j => if j = k then v else h a j := by
  funext k'
  simp [q_up]
theorem q_uc_ne {α : Type} (h : Nat → Nat → α) {a a' : Nat} (f : Nat → α) (hn : a' ≠ a) : q_uc h a f a' = h a' := by
  funext k'
  simp [q_uc, hn]
theorem q_uc_eq {α : Type} (h : Nat → Nat → α) (a : Nat) (f : Nat → α) : q_uc h a f a = f := by
  funext k'
  simp [q_uc]
theorem q_in_of {i : Int32} {n : Nat} (h : ¬ (i < 0 ∨ n ≤ i.toNatClampNeg)) : vp_in i n := h
theorem q_fit {v : Int32} (h : v = 0 ∨ v = 1) : fits .boolean (.int v) = true := by
  rcases h with rfl | rfl <;> rfl
theorem q_nar {v : Int32} (h : v = 0 ∨ v = 1) : narrow .boolean (.int v) = .int v := by
  rcases h with rfl | rfl <;> rfl
theorem qg_getI {l : Launch} {P : QP} {own : String} {cc : ByteArray} {nL pc : Nat} {ret : Option FieldType} {index ci k N : Nat} {C : String} {T : u_T} {ty0 : Nat → FieldType} (hc : QCls ci C T N ty0) (hk : k < N) (hf : q_fi ci k = true) (hl : q_lnk own index T k) (h : decode cc pc = .ok (.getfield index, 3)) : QGood l P own cc nL ret pc (qi_getI (pc + 3) ci k) := by
  intro p e s m args below meth c R D ty tb base X G C d cells slots Q cx hC hroom Rt nx rt L S M r he hn hr H locs ls hR hL
  obtain ⟨hx, hb, hml, hown, hts, hSt⟩ := cx
  unfold qi_getI at he
  split at he
  · rename_i a S1
    unfold q_atO at he
    split at he
    · rename_i kd nn rs hq
      obtain ⟨h1, he⟩ := q_cond he
      obtain ⟨i, rfl, hG, hkd⟩ := q_objAt hq h1 hc.2.1
      have hat := q_W_get (ty := ty) (tb := tb) (base := base) (M := M) hG
      rw [q_ent_obj hkd hc.2.1, q_nf_of hc] at hat
      have hv : ((List.range N).map (q_fv tb base M (i + 4) ci rs))[k]? = some (.int (M.1 (i + 4) k)) := by simp [List.getElem?_range, hk, q_fv, hf]
      have hn' := hn _ _ _ _ he H locs ls hR hL
      simp only [List.map_cons, q_rv, q_rho_hi]
      rcases hl with hl | ⟨host, hl⟩
      · exact va_get hx hb hts hc.2.2.2.2 hown hSt.1 hR.1 i hat hc.1 k hk (hts _ hl) (fun _ h9 => h9) hv h hn'
      · exact va_getN hx hb hts hc.2.2.2.2 hown hSt.1 hR.1 i hat hc.1 k hk (va_Nw.use rfl (hSt.2.2.2.1 _ hl)) (fun _ h9 => h9) hv h hn'
    · cases he
  · cases he
theorem qg_getA {l : Launch} {P : QP} {own : String} {cc : ByteArray} {nL pc : Nat} {ret : Option FieldType} {index ci k N : Nat} {C : String} {T : u_T} {ty0 : Nat → FieldType} (hc : QCls ci C T N ty0) (hk : k < N) (hf : q_fi ci k = false) (hl : q_lnk own index T k) (h : decode cc pc = .ok (.getfield index, 3)) : QGood l P own cc nL ret pc (qi_getA (pc + 3) ci k) := by
  intro p e s m args below meth c R D ty tb base X G C d cells slots Q cx hC hroom Rt nx rt L S M r he hn hr H locs ls hR hL
  obtain ⟨hx, hb, hml, hown, hts, hSt⟩ := cx
  unfold qi_getA at he
  split at he
  · rename_i a S1
    unfold q_atA at he
    split at he
    · rename_i kd nn rs hq
      obtain ⟨h1, he⟩ := q_cond he
      unfold q_bo at he
      split at he
      · rename_i b hb2
        obtain ⟨i, rfl, hG, hkd⟩ := q_objAt hq h1 hc.2.1
        have hat := q_W_get (ty := ty) (tb := tb) (base := base) (M := M) hG
        rw [q_ent_obj hkd hc.2.1, q_nf_of hc] at hat
        have hv : ((List.range N).map (q_fv tb base M (i + 4) ci rs))[k]? = some (.ref (q_rho tb base b)) := by simp [List.getElem?_range, hk, q_fv, hf, hb2, va_rf]
        have hn' := hn _ _ _ _ he H locs ls hR hL
        simp only [List.map_cons, q_rv, q_rho_hi]
        rcases hl with hl | ⟨host, hl⟩
        · exact va_get hx hb hts hc.2.2.2.2 hown hSt.1 hR.1 i hat hc.1 k hk (hts _ hl) (fun _ h9 => h9) hv h hn'
        · exact va_getN hx hb hts hc.2.2.2.2 hown hSt.1 hR.1 i hat hc.1 k hk (va_Nw.use rfl (hSt.2.2.2.1 _ hl)) (fun _ h9 => h9) hv h hn'
      · cases he
    · cases he
  · cases he
theorem qg_putI {l : Launch} {P : QP} {own : String} {cc : ByteArray} {nL pc : Nat} {ret : Option FieldType} {index ci k N : Nat} {C : String} {T : u_T} {ty0 : Nat → FieldType} (hc : QCls ci C T N ty0) (hk : k < N) (hf : q_fi ci k = true) (hfin : (T k).2.2.2 = false) (hd : parseFieldDescriptor (T k).2.2.1 = some .int) (hl : q_lnk own index T k) (h : decode cc pc = .ok (.putfield index, 3)) : QGood l P own cc nL ret pc (qi_putI (pc + 3) ci k) := by
  intro p e s m args below meth c R D ty tb base X G C d cells slots Q cx hC hroom Rt nx rt L S M r he hn hr H locs ls hR hL
  obtain ⟨hx, hb, hml, hown, hts, hSt⟩ := cx
  unfold qi_putI at he
  split at he
  · rename_i v a S1
    unfold q_atO at he
    split at he
    · rename_i kd nn rs hq
      obtain ⟨h1, he⟩ := q_cond he
      obtain ⟨i, rfl, hG, hkd⟩ := q_objAt hq h1 hc.2.1
      have hat := q_W_get (ty := ty) (tb := tb) (base := base) (M := M) hG
      rw [q_ent_obj hkd hc.2.1, q_nf_of hc] at hat
      have hlen : k < ((List.range N).map (q_fv tb base M (i + 4) ci rs)).length := by simpa using hk
      simp only [List.map_cons, q_rv, q_rho_hi]
      have kk : ∀ (H1 : Heap) (locs1 : List Loc), va_P D vwCl ((q_W ty tb base G M).set i (base + i, .inr (ci, ((List.range N).map (q_fv tb base M (i + 4) ci rs)).set k (.int v)))) H1 → va_D (q_A base) ((q_W ty tb base G M).set i (base + i, .inr (ci, ((List.range N).map (q_fv tb base M (i + 4) ci rs)).set k (.int v)))) → va_S (q_A base) s.heap H1 locs1 → W p l e R s m args below meth c H1 locs1 cells slots Q (F0 m (pc + 3) ls (S1.map (q_rv tb base))) := by
        intro H1 locs1 hP1 _ hS1
        rw [q_fs_set _ _ _ _ _ _ _ _ _ hf, ← q_nf_of hc, q_W_set (M' := (q_up M.1 (i + 4) k v, M.2)) hG (fun a ha => ⟨q_up_ne _ _ ha, rfl⟩) (q_ent_obj hkd hc.2.1)] at hP1
        exact hn _ _ _ _ he H1 locs1 ls ⟨hP1, hS1⟩ hL
      rcases hl with hl | ⟨host, hl⟩
      · exact va_put hx hb hts hc.2.2.2.2 ty0 hc.2.2.1 hc.2.2.2.1 hown hSt.1 hR.1 q_D hR.2 i hat hc.1 k hk (hts _ hl) (fun _ h9 => h9) hfin hd rfl rfl hlen h kk
      · exact va_putN hx hb hts hc.2.2.2.2 ty0 hc.2.2.1 hc.2.2.2.1 hown hSt.1 hR.1 q_D hR.2 i hat hc.1 k hk (va_Nw.use rfl (hSt.2.2.2.1 _ hl)) (fun _ h9 => h9) hfin hd rfl rfl hlen h kk
    · cases he
  · cases he
theorem qg_putZ {l : Launch} {P : QP} {own : String} {cc : ByteArray} {nL pc : Nat} {ret : Option FieldType} {index ci k N : Nat} {C : String} {T : u_T} {ty0 : Nat → FieldType} (hc : QCls ci C T N ty0) (hk : k < N) (hf : q_fi ci k = true) (hfin : (T k).2.2.2 = false) (hd : parseFieldDescriptor (T k).2.2.1 = some .boolean) (hl : q_lnk own index T k) (h : decode cc pc = .ok (.putfield index, 3)) : QGood l P own cc nL ret pc (qi_putZ (pc + 3) ci k) := by
  intro p e s m args below meth c R D ty tb base X G C d cells slots Q cx hC hroom Rt nx rt L S M r he hn hr H locs ls hR hL
  obtain ⟨hx, hb, hml, hown, hts, hSt⟩ := cx
  unfold qi_putZ at he
  split at he
  · rename_i v a S1
    unfold q_atO at he
    split at he
    · rename_i kd nn rs hq
      obtain ⟨h1, he⟩ := q_cond he
      split at he <;> rename_i hz
      rotate_left
      · cases he
      obtain ⟨i, rfl, hG, hkd⟩ := q_objAt hq h1 hc.2.1
      have hat := q_W_get (ty := ty) (tb := tb) (base := base) (M := M) hG
      rw [q_ent_obj hkd hc.2.1, q_nf_of hc] at hat
      have hlen : k < ((List.range N).map (q_fv tb base M (i + 4) ci rs)).length := by simpa using hk
      simp only [List.map_cons, q_rv, q_rho_hi]
      have kk : ∀ (H1 : Heap) (locs1 : List Loc), va_P D vwCl ((q_W ty tb base G M).set i (base + i, .inr (ci, ((List.range N).map (q_fv tb base M (i + 4) ci rs)).set k (.int v)))) H1 → va_D (q_A base) ((q_W ty tb base G M).set i (base + i, .inr (ci, ((List.range N).map (q_fv tb base M (i + 4) ci rs)).set k (.int v)))) → va_S (q_A base) s.heap H1 locs1 → W p l e R s m args below meth c H1 locs1 cells slots Q (F0 m (pc + 3) ls (S1.map (q_rv tb base))) := by
        intro H1 locs1 hP1 _ hS1
        rw [q_fs_set _ _ _ _ _ _ _ _ _ hf, ← q_nf_of hc, q_W_set (M' := (q_up M.1 (i + 4) k v, M.2)) hG (fun a ha => ⟨q_up_ne _ _ ha, rfl⟩) (q_ent_obj hkd hc.2.1)] at hP1
        exact hn _ _ _ _ he H1 locs1 ls ⟨hP1, hS1⟩ hL
      rcases hl with hl | ⟨host, hl⟩
      · exact va_put hx hb hts hc.2.2.2.2 ty0 hc.2.2.1 hc.2.2.2.1 hown hSt.1 hR.1 q_D hR.2 i hat hc.1 k hk (hts _ hl) (fun _ h9 => h9) hfin hd (q_nar hz) (q_fit hz) hlen h kk
      · exact va_putN hx hb hts hc.2.2.2.2 ty0 hc.2.2.1 hc.2.2.2.1 hown hSt.1 hR.1 q_D hR.2 i hat hc.1 k hk (va_Nw.use rfl (hSt.2.2.2.1 _ hl)) (fun _ h9 => h9) hfin hd (q_nar hz) (q_fit hz) hlen h kk
    · cases he
  · cases he
theorem qg_lald {l : Launch} {P : QP} {own : String} {cc : ByteArray} {nL pc : Nat} {ret : Option FieldType} (h : decode cc pc = .ok (.laload, 1)) : QGood l P own cc nL ret pc (qi_lald (pc + 1)) := by
  intro p e s m args below meth c R D ty tb base X G C d cells slots Q cx hC hroom Rt nx rt L S M r he hn hr H locs ls hR hL
  obtain ⟨hx, hb, hml, hown, hts, hSt⟩ := cx
  unfold qi_lald at he
  split at he
  · rename_i i a S1
    unfold q_arO at he
    split at he
    · rename_i kd nn rs hq
      split at he
      · cases he
      · rename_i hin
        obtain ⟨h1, he⟩ := q_cond he
        obtain ⟨j, rfl, hG, hkd⟩ := q_arrAt hq h1 (by decide)
        have hat := q_W_get (ty := ty) (tb := tb) (base := base) (M := M) hG
        rw [q_ent_l hkd] at hat
        simp only [List.map_cons, q_rv, q_rho_hi]
        exact va_lald hx hb hSt.1 hR.1 j 1 hat rfl (q_in_of hin) h (hn _ _ _ _ he H locs ls hR hL)
    · cases he
  · cases he
theorem qg_zald {l : Launch} {P : QP} {own : String} {cc : ByteArray} {nL pc : Nat} {ret : Option FieldType} (h : decode cc pc = .ok (.baload, 1)) : QGood l P own cc nL ret pc (qi_zald (pc + 1)) := by
  intro p e s m args below meth c R D ty tb base X G C d cells slots Q cx hC hroom Rt nx rt L S M r he hn hr H locs ls hR hL
  obtain ⟨hx, hb, hml, hown, hts, hSt⟩ := cx
  unfold qi_zald at he
  split at he
  · rename_i i a S1
    unfold q_arO at he
    split at he
    · rename_i kd nn rs hq
      split at he
      · cases he
      · rename_i hin
        obtain ⟨h1, he⟩ := q_cond he
        obtain ⟨j, rfl, hG, hkd⟩ := q_arrAt hq h1 (by decide)
        have hat := q_W_get (ty := ty) (tb := tb) (base := base) (M := M) hG
        rw [q_ent_z hkd] at hat
        simp only [List.map_cons, q_rv, q_rho_hi]
        exact va_zald hx hb hSt.1 hR.1 j 2 hat rfl (q_in_of hin) h (hn _ _ _ _ he H locs ls hR hL)
    · cases he
  · cases he
theorem qg_iast {l : Launch} {P : QP} {own : String} {cc : ByteArray} {nL pc : Nat} {ret : Option FieldType} (h : decode cc pc = .ok (.iastore, 1)) : QGood l P own cc nL ret pc (qi_iast (pc + 1)) := by
  intro p e s m args below meth c R D ty tb base X G C d cells slots Q cx hC hroom Rt nx rt L S M r he hn hr H locs ls hR hL
  obtain ⟨hx, hb, hml, hown, hts, hSt⟩ := cx
  unfold qi_iast at he
  split at he
  · rename_i v i a S1
    unfold q_arO at he
    split at he
    · rename_i kd nn rs hq
      split at he
      · cases he
      · rename_i hin
        obtain ⟨h1, he⟩ := q_cond he
        obtain ⟨j, rfl, hG, hkd⟩ := q_arrAt hq h1 (by decide)
        have hat := q_W_get (ty := ty) (tb := tb) (base := base) (M := M) hG
        rw [q_ent_i hkd] at hat
        simp only [List.map_cons, q_rv, q_rho_hi]
        refine va_iast hx hb hSt.1 hR.1 q_D hR.2 j 0 hat rfl (q_in_of hin) h (fun H1 locs1 hP1 _ hS1 => ?_)
        rw [q_W_set (M := M) (M' := (q_up M.1 (j + 4) i.toNatClampNeg v, M.2)) hG (fun a ha => ⟨q_up_ne _ _ ha, rfl⟩) (by rw [q_ent_i hkd]; simp only [q_up_eq]; rfl)] at hP1
        exact hn _ _ _ _ he H1 locs1 ls ⟨hP1, hS1⟩ hL
    · cases he
  · cases he
theorem qg_zast {l : Launch} {P : QP} {own : String} {cc : ByteArray} {nL pc : Nat} {ret : Option FieldType} (h : decode cc pc = .ok (.bastore, 1)) : QGood l P own cc nL ret pc (qi_zast (pc + 1)) := by
  intro p e s m args below meth c R D ty tb base X G C d cells slots Q cx hC hroom Rt nx rt L S M r he hn hr H locs ls hR hL
  obtain ⟨hx, hb, hml, hown, hts, hSt⟩ := cx
  unfold qi_zast at he
  split at he
  · rename_i v i a S1
    unfold q_arO at he
    split at he
    · rename_i kd nn rs hq
      split at he
      · cases he
      · rename_i hin
        obtain ⟨h1, he⟩ := q_cond he
        obtain ⟨j, rfl, hG, hkd⟩ := q_arrAt hq h1 (by decide)
        have hat := q_W_get (ty := ty) (tb := tb) (base := base) (M := M) hG
        rw [q_ent_z hkd] at hat
        simp only [List.map_cons, q_rv, q_rho_hi]
        refine va_zast hx hb hSt.1 hR.1 q_D hR.2 j 2 hat rfl (q_in_of hin) h (fun H1 locs1 hP1 _ hS1 => ?_)
        rw [q_W_set (M := M) (M' := (q_up M.1 (j + 4) i.toNatClampNeg (vp_nar .boolean v), M.2)) hG (fun a ha => ⟨q_up_ne _ _ ha, rfl⟩) (by rw [q_ent_z hkd]; simp only [q_up_eq]; rfl)] at hP1
        exact hn _ _ _ _ he H1 locs1 ls ⟨hP1, hS1⟩ hL
    · cases he
  · cases he
theorem qg_last {l : Launch} {P : QP} {own : String} {cc : ByteArray} {nL pc : Nat} {ret : Option FieldType} (h : decode cc pc = .ok (.lastore, 1)) : QGood l P own cc nL ret pc (qi_last (pc + 1)) := by
  intro p e s m args below meth c R D ty tb base X G C d cells slots Q cx hC hroom Rt nx rt L S M r he hn hr H locs ls hR hL
  obtain ⟨hx, hb, hml, hown, hts, hSt⟩ := cx
  unfold qi_last at he
  split at he
  · rename_i v i a S1
    unfold q_arO at he
    split at he
    · rename_i kd nn rs hq
      split at he
      · cases he
      · rename_i hin
        obtain ⟨h1, he⟩ := q_cond he
        obtain ⟨j, rfl, hG, hkd⟩ := q_arrAt hq h1 (by decide)
        have hat := q_W_get (ty := ty) (tb := tb) (base := base) (M := M) hG
        rw [q_ent_l hkd] at hat
        simp only [List.map_cons, q_rv, q_rho_hi]
        refine va_last hx hb hSt.1 hR.1 q_D hR.2 j 1 hat rfl (q_in_of hin) h (fun H1 locs1 hP1 _ hS1 => ?_)
        rw [q_W_set (M := M) (M' := (M.1, q_up M.2 (j + 4) i.toNatClampNeg v)) hG (fun a ha => ⟨rfl, q_up_ne _ _ ha⟩) (by rw [q_ent_l hkd]; simp only [q_up_eq]; rfl)] at hP1
        exact hn _ _ _ _ he H1 locs1 ls ⟨hP1, hS1⟩ hL
    · cases he
  · cases he
theorem qg_iald {l : Launch} {P : QP} {own : String} {cc : ByteArray} {nL pc : Nat} {ret : Option FieldType} (h : decode cc pc = .ok (.iaload, 1)) : QGood l P own cc nL ret pc (qi_iald (pc + 1)) := by
  intro p e s m args below meth c R D ty tb base X G C d cells slots Q cx hC hroom Rt nx rt L S M r he hn hr H locs ls hR hL
  obtain ⟨hx, hb, hml, hown, hts, hSt⟩ := cx
  unfold qi_iald at he
  split at he
  · rename_i i a S1
    unfold q_arI at he
    split at he
    · rename_i kd nn rs hq
      split at he
      · cases he
      · rename_i hin
        cases h1 : kd == 10
        · rw [h1] at he
          obtain ⟨h2, he⟩ := q_cond (show cond (kd == 14 && Nat.ble a 3) _ none = some r from he)
          rw [Bool.and_eq_true] at h2
          have ha : (a : Nat) < 4 := Nat.lt_succ_of_le (Nat.le_of_ble_eq_true h2.2)
          rcases q_cell_cases hq with ⟨-, h3⟩ | ⟨j, h3, -⟩
          · have h4 : nn = X.1 a := by cases h3; rfl
            subst h4
            simp only [List.map_cons, q_rv, q_rho_lo _ _ ha]
            have hT := hSt.2.1 a ha
            exact va_ti hx hb hT hR.2 (q_in_of hin) rfl h (hn _ _ _ _ he H locs ls hR hL)
          · exact absurd ha (by rw [h3]; exact Nat.not_lt.mpr (Nat.le_add_left 4 j))
        · rw [h1] at he
          obtain ⟨j, rfl, hG, hkd⟩ := q_arrAt hq h1 (by decide)
          have hat := q_W_get (ty := ty) (tb := tb) (base := base) (M := M) hG
          rw [q_ent_i hkd] at hat
          simp only [List.map_cons, q_rv, q_rho_hi]
          exact va_iald hx hb hSt.1 hR.1 j 0 hat rfl (q_in_of hin) h (hn _ _ _ _ he H locs ls hR hL)
    · cases he
  · cases he
theorem qg_aald {l : Launch} {P : QP} {own : String} {cc : ByteArray} {nL pc : Nat} {ret : Option FieldType} (h : decode cc pc = .ok (.aaload, 1)) : QGood l P own cc nL ret pc (qi_aald (pc + 1)) := by
  intro p e s m args below meth c R D ty tb base X G C d cells slots Q cx hC hroom Rt nx rt L S M r he hn hr H locs ls hR hL
  obtain ⟨hx, hb, hml, hown, hts, hSt⟩ := cx
  unfold qi_aald at he
  split at he
  · rename_i i a S1
    unfold q_arA at he
    split at he
    · rename_i kd nn rs hq
      split at he
      · cases he
      · rename_i hin
        obtain ⟨h1, he⟩ := q_cond he
        obtain ⟨j, rfl, hG, hkd⟩ := q_arrAt hq h1 (by decide)
        unfold q_bo at he
        split at he
        · rename_i b hb2
          have hat := q_W_get (ty := ty) (tb := tb) (base := base) (M := M) hG
          rw [q_ent_q (by rw [hkd]; exact Nat.le_refl _)] at hat
          simp only [List.map_cons, q_rv, q_rho_hi]
          refine va_aldq hx hb hSt.1 hR.1 j 3 hat rfl (q_in_of hin) h ?_
          simp only [hb2]
          exact hn _ _ _ _ he H locs ls hR hL
        · cases he
    · cases he
  · cases he
theorem qg_alen {l : Launch} {P : QP} {own : String} {cc : ByteArray} {nL pc : Nat} {ret : Option FieldType} (h : decode cc pc = .ok (.arraylength, 1)) : QGood l P own cc nL ret pc (qi_alen (pc + 1)) := by
  intro p e s m args below meth c R D ty tb base X G C d cells slots Q cx hC hroom Rt nx rt L S M r he hn hr H locs ls hR hL
  obtain ⟨hx, hb, hml, hown, hts, hSt⟩ := cx
  unfold qi_alen at he
  split at he
  · rename_i a S1
    unfold q_len at he
    split at he
    · rename_i kd nn rs hq
      obtain ⟨h1, he⟩ := q_cond he
      have h1 := Nat.le_of_ble_eq_true h1
      rcases q_cell_cases hq with ⟨ha, h3⟩ | ⟨j, rfl, hG⟩
      · have h4 : nn = X.1 a := by cases h3; rfl
        subst h4
        simp only [List.map_cons, q_rv, q_rho_lo _ _ ha]
        exact va_tlen hx hb (hSt.2.1 a ha) hR.2 rfl h (hn _ _ _ _ he H locs ls hR hL)
      · have hat := q_W_get (ty := ty) (tb := tb) (base := base) (M := M) hG
        simp only [List.map_cons, q_rv, q_rho_hi]
        have hn' := hn _ _ _ _ he H locs ls hR hL
        rcases (show kd = 10 ∨ kd = 11 ∨ kd = 12 ∨ 13 ≤ kd by omega) with hk | hk | hk | hk
        · rw [q_ent_i hk] at hat
          exact va_alen hx hb hSt.1 hR.1 j 0 hat (ty := .int) rfl rfl h hn'
        · rw [q_ent_l hk] at hat
          exact va_alen hx hb hSt.1 hR.1 j 1 hat (ty := .long) rfl rfl h hn'
        · rw [q_ent_z hk] at hat
          exact va_alen hx hb hSt.1 hR.1 j 2 hat (ty := .boolean) rfl rfl h hn'
        · rw [q_ent_q hk] at hat
          exact va_alen hx hb hSt.1 hR.1 j 3 hat (ty := .object "RungByHeart$Shelf") rfl rfl h hn'
    · cases he
  · cases he
theorem qg_static {l : Launch} {P : QP} {own : String} {cc : ByteArray} {nL pc : Nat} {ret : Option FieldType} {index j : Nat} (hj : j < 3) (hl : Cond.fieldLink own index (q_zc j) (q_zn j) "[I" ∈ q_GW) (h : decode cc pc = .ok (.getstatic index, 3)) : QGood l P own cc nL ret pc (qi_static (pc + 3) j) := by
  intro p e s m args below meth c R D ty tb base X G C d cells slots Q cx hC hroom Rt nx rt L S M r he hn hr H locs ls hR hL
  obtain ⟨hx, hb, hml, hown, hts, hSt⟩ := cx
  have hn' := hn _ _ _ _ he H locs ls hR hL
  have hj4 : j < 4 := by omega
  simp only [List.map_cons, q_rv, q_rho_lo _ _ hj4] at hn'
  exact va_gets hx hb (hSt.2.2.1 j hj) hR.2 hown (hts _ hl) (fun _ h9 => h9) h hn'
theorem qg_iret {l : Launch} {P : QP} {own : String} {cc : ByteArray} {nL pc : Nat} {ret : Option FieldType} (hret : ret = some .int) (h : decode cc pc = .ok (.ireturn, 1)) : QGood l P own cc nL ret pc qi_iret := by
  intro p e s m args below meth c R D ty tb base X G C d cells slots Q cx hC hroom Rt nx rt L S M r he hn hr H locs ls hR hL
  obtain ⟨hx, hb, hml, hown, hts, hSt⟩ := cx
  unfold qi_iret at he
  split at he
  · exact hr _ _ he (Or.inl hret) pc H locs ls hR h
  · cases he
theorem qg_lret {l : Launch} {P : QP} {own : String} {cc : ByteArray} {nL pc : Nat} {ret : Option FieldType} (hret : ret = some .long) (h : decode cc pc = .ok (.lreturn, 1)) : QGood l P own cc nL ret pc qi_lret := by
  intro p e s m args below meth c R D ty tb base X G C d cells slots Q cx hC hroom Rt nx rt L S M r he hn hr H locs ls hR hL
  obtain ⟨hx, hb, hml, hown, hts, hSt⟩ := cx
  unfold qi_lret at he
  split at he
  · exact hr _ _ he hret pc H locs ls hR h
  · cases he
theorem qg_zret {l : Launch} {P : QP} {own : String} {cc : ByteArray} {nL pc : Nat} {ret : Option FieldType} (hret : ret = some .boolean) (h : decode cc pc = .ok (.ireturn, 1)) : QGood l P own cc nL ret pc qi_zret := by
  intro p e s m args below meth c R D ty tb base X G C d cells slots Q cx hC hroom Rt nx rt L S M r he hn hr H locs ls hR hL
  obtain ⟨hx, hb, hml, hown, hts, hSt⟩ := cx
  unfold qi_zret at he
  split at he
  · split at he
    · rename_i hz
      exact hr _ _ he (Or.inr ⟨hret, hz⟩) pc H locs ls hR h
    · cases he
  · cases he
theorem qg_aret {l : Launch} {P : QP} {own : String} {cc : ByteArray} {nL pc : Nat} {ret : Option FieldType} {n : String} (hret : ret = some (.object n)) (h : decode cc pc = .ok (.areturn, 1)) : QGood l P own cc nL ret pc qi_aret := by
  intro p e s m args below meth c R D ty tb base X G C d cells slots Q cx hC hroom Rt nx rt L S M r he hn hr H locs ls hR hL
  obtain ⟨hx, hb, hml, hown, hts, hSt⟩ := cx
  unfold qi_aret at he
  split at he
  · exact hr _ _ he ⟨n, hret⟩ pc H locs ls hR h
  · exact hr _ _ he ⟨n, hret⟩ pc H locs ls hR h
  · cases he
theorem qg_vret {l : Launch} {P : QP} {own : String} {cc : ByteArray} {nL pc : Nat} {ret : Option FieldType} (hret : ret = none) (h : decode cc pc = .ok (.return_, 1)) : QGood l P own cc nL ret pc qi_vret := by
  intro p e s m args below meth c R D ty tb base X G C d cells slots Q cx hC hroom Rt nx rt L S M r he hn hr H locs ls hR hL
  obtain ⟨hx, hb, hml, hown, hts, hSt⟩ := cx
  unfold qi_vret at he
  split at he
  · exact hr _ _ he hret pc H locs ls hR h
  · cases he
