/-! WHAT MAKES CELLS, one by one -/
theorem q_and {a b : Bool} (h : (a && b) = true) : a = true ∧ b = true := by rwa [Bool.and_eq_true] at h
theorem q_base_A {base n : Nat} (h : base ≤ n) : ∀ q : Nat, n ≤ q → q_A base q := fun _ hq => Nat.le_trans h hq
/-- a class of which objects are made -/
def QNew (own : String) (index : Nat) (C : String) (N : Nat) : Prop := Cond.classLink own index C ∈ q_GW ∧ Cond.instantiable C N ∈ q_GW ∧ Cond.initialized C ∈ q_GW
theorem q_fs_new (tb : Nat → Nat) (base : Nat) (M : QM) (a ci N : Nat) (ty0 : Nat → FieldType) (hdef : ∀ k, k < N → defaultValue (ty0 k) = if q_fi ci k = true then .int 0 else .null) : ∀ j, j < N → defaultValue (ty0 j) = vp_V ((List.range N).map (q_fv tb base (q_zero M a) a ci (List.replicate N none))) j := by
  intro j hj
  have hn : q_nth (List.replicate N none) j = none := by rw [q_nth_get, List.getElem?_replicate, if_pos hj]; rfl
  rw [hdef j hj]
  simp only [vp_V, List.getD_eq_getElem?_getD, List.getElem?_map, List.getElem?_range hj, Option.map_some, Option.getD_some, q_fv, hn]
  split
  · simp [q_zero, q_uc]
  · rfl
theorem qg_new {l : Launch} {P : QP} {B : Nat → Nat × Nat} {own : String} {cc : ByteArray} {nL pc index ci N : Nat} {C : String} {T : u_T} {ty0 : Nat → FieldType} (hc : QCls ci C T N ty0) (hw : QNew own index C N) (hdef : ∀ k, k < N → defaultValue (ty0 k) = if q_fi ci k = true then .int 0 else .null) (h : decode cc pc = .ok (.new index, 3)) : QGoodG l P B own cc nL pc (qa_new (pc + 3) ci) := by
  intro p e s m args below meth c R D ty tb base X CG d lc lsl s0 Q cx hCG hroom hin Rt nx L S G M r he hn cells slots hz1 hz2 hz3 hz4 H locs ls hR hL
  obtain ⟨hx, hb, hml, hown, hts, hSt⟩ := cx
  obtain ⟨r1, r2, r3, r4, r5⟩ := hroom
  unfold qa_new at he
  obtain ⟨hl, he⟩ := q_cond he
  rw [q_app_eq] at he
  obtain ⟨hl1, hl2⟩ := q_and hl
  have hl1 := Nat.le_of_ble_eq_true hl1
  have hl2 := Nat.le_of_ble_eq_true hl2
  rw [q_nf_of hc] at hl2 he
  have hls : q_sl (G ++ [(ci, N, List.replicate N none)]) = q_sl G + N := by rw [q_sl_app]; rfl
  have hll : (G ++ [(ci, N, List.replicate N (none : Option Nat))]).length = G.length + 1 := by simp
  refine va_new (fs := (List.range N).map (q_fv tb base (q_zero M (G.length + 4)) (G.length + 4) ci (List.replicate N none))) hx hb hts hc.2.2.2.2 ty0 hc.2.2.1 hown (hts _ hw.1) (hts _ hw.2.1) (hts _ hw.2.2) hSt.1 hR.1 q_D hR.2 (q_base_A r5) hc.1 (q_fs_new tb base M _ ci N ty0 hdef) (by omega) (by omega) h (fun q H1 hP1 hD1 hS1 => ?_)
  refine q_size (fun hsz => ?_)
  have hq := q_place hP1 hD1 hsz (by omega)
  subst hq
  rw [q_W_push (q := (ci, N, List.replicate N none)) (by rw [q_ent_obj rfl hc.2.1, q_nf_of hc])] at hP1
  have := hn _ _ _ _ _ he (cells + 1) (slots + N) (by rw [hll]; omega) (by rw [hls]; omega) (by rw [hll]; exact hl1) (by rw [hls]; exact hl2) H1 locs ls ⟨hP1, hS1⟩ hL
  simpa only [List.map_cons, q_rv, q_rho_hi] using this
theorem q_tyI {s : State} {D : va_G} {ty : QTy} (hK : va_K D vwCl (q_tys ty) s) (k : Nat) {c1 cA : ClassId} {t : FieldType} (hk : (q_tys ty)[k]? = some (c1, t)) (hK2 : va_K D vwCl (q_tys ty ++ [(cA, t)]) s) : cA = c1 := by
  have h1 := (hK.2 k _ hk).2
  have h2 := (hK2.2 (q_tys ty).length (cA, t) (by rw [List.getElem?_append_right (Nat.le_refl _), Nat.sub_self]; rfl)).2
  cases t with
  | object C =>
    obtain ⟨_, _, _, _, _, e1⟩ := h1
    obtain ⟨_, _, _, _, _, e2⟩ := h2
    exact Option.some.inj (e2.symm.trans e1)
  | _ => exact Option.some.inj (h2.symm.trans h1)
theorem qg_arr_int {l : Launch} {P : QP} {B : Nat → Nat × Nat} {own : String} {cc : ByteArray} {nL pc : Nat} (hw : Cond.arrayClass .int ∈ q_GW) (h : decode cc pc = .ok (.newarray .int, 2)) : QGoodG l P B own cc nL pc (qa_arr (pc + 2) 10) := by
  intro p e s m args below meth c R D ty tb base X CG d lc lsl s0 Q cx hCG hroom hin Rt nx L S G M r he hn cells slots hz1 hz2 hz3 hz4 H locs ls hR hL
  obtain ⟨hx, hb, hml, hown, hts, hSt⟩ := cx
  obtain ⟨r1, r2, r3, r4, r5⟩ := hroom
  unfold qa_arr at he
  split at he
  · rename_i n S1
    split at he
    · cases he
    · rename_i hneg
      obtain ⟨hl, he⟩ := q_cond he
      rw [q_app_eq] at he
      obtain ⟨hl0, hl⟩ := q_and hl
      obtain ⟨hl1, hl2⟩ := q_and hl
      have hl0 := Nat.le_of_ble_eq_true hl0
      have hl1 := Nat.le_of_ble_eq_true hl1
      have hl2 := Nat.le_of_ble_eq_true hl2
      have hls : q_sl (G ++ [(10, n.toNatClampNeg, [])]) = q_sl G + n.toNatClampNeg := by rw [q_sl_app]; rfl
      have hll : (G ++ [(10, n.toNatClampNeg, ([] : List (Option Nat)))]).length = G.length + 1 := by simp
      simp only [List.map_cons, q_rv]
      refine va_newa (atype := .int) (a0 := (n.toNatClampNeg, .inl (fun _ => 0))) hx hb (hts _ hw) rfl hSt.1 hR.1 q_D hR.2 (q_base_A r5) (fun _ => rfl) hneg rfl ?_ (by omega) (by omega) h (fun q cA H1 hK1 hP1 hD1 hS1 => ?_)
      · have hc8 : componentBytes (newarray.typeOf .int) ≤ 8 := by decide
        have := Nat.mul_le_mul hl0 hc8
        exact Nat.le_trans this (by decide)
      · refine q_size (fun hsz => ?_)
        have hq := q_place hP1 hD1 hsz (by omega)
        subst hq
        have hcA := q_tyI hSt.1 0 rfl hK1
        subst hcA
        rw [q_W_push (q := (10, n.toNatClampNeg, [])) (by rw [q_ent_i rfl]; simp only [q_zero, q_uc_eq])] at hP1
        have := hn _ _ _ _ _ he (cells + 1) (slots + n.toNatClampNeg) (by rw [hll]; omega) (by rw [hls]; omega) (by rw [hll]; exact hl1) (by rw [hls]; exact hl2) H1 locs ls ⟨hP1, hS1⟩ hL
        simpa only [List.map_cons, q_rv, q_rho_hi] using this
  · cases he
theorem qg_arr_long {l : Launch} {P : QP} {B : Nat → Nat × Nat} {own : String} {cc : ByteArray} {nL pc : Nat} (hw : Cond.arrayClass .long ∈ q_GW) (h : decode cc pc = .ok (.newarray .long, 2)) : QGoodG l P B own cc nL pc (qa_arr (pc + 2) 11) := by
  intro p e s m args below meth c R D ty tb base X CG d lc lsl s0 Q cx hCG hroom hin Rt nx L S G M r he hn cells slots hz1 hz2 hz3 hz4 H locs ls hR hL
  obtain ⟨hx, hb, hml, hown, hts, hSt⟩ := cx
  obtain ⟨r1, r2, r3, r4, r5⟩ := hroom
  unfold qa_arr at he
  split at he
  · rename_i n S1
    split at he
    · cases he
    · rename_i hneg
      obtain ⟨hl, he⟩ := q_cond he
      rw [q_app_eq] at he
      obtain ⟨hl0, hl⟩ := q_and hl
      obtain ⟨hl1, hl2⟩ := q_and hl
      have hl0 := Nat.le_of_ble_eq_true hl0
      have hl1 := Nat.le_of_ble_eq_true hl1
      have hl2 := Nat.le_of_ble_eq_true hl2
      have hls : q_sl (G ++ [(11, n.toNatClampNeg, [])]) = q_sl G + n.toNatClampNeg := by rw [q_sl_app]; rfl
      have hll : (G ++ [(11, n.toNatClampNeg, ([] : List (Option Nat)))]).length = G.length + 1 := by simp
      simp only [List.map_cons, q_rv]
      refine va_newa (atype := .long) (a0 := (n.toNatClampNeg, .inr (.inl (fun _ => 0)))) hx hb (hts _ hw) rfl hSt.1 hR.1 q_D hR.2 (q_base_A r5) (fun _ => rfl) hneg rfl ?_ (by omega) (by omega) h (fun q cA H1 hK1 hP1 hD1 hS1 => ?_)
      · have hc8 : componentBytes (newarray.typeOf .long) ≤ 8 := by decide
        have := Nat.mul_le_mul hl0 hc8
        exact Nat.le_trans this (by decide)
      · refine q_size (fun hsz => ?_)
        have hq := q_place hP1 hD1 hsz (by omega)
        subst hq
        have hcA := q_tyI hSt.1 1 rfl hK1
        subst hcA
        rw [q_W_push (q := (11, n.toNatClampNeg, [])) (by rw [q_ent_l rfl]; simp only [q_zero, q_uc_eq])] at hP1
        have := hn _ _ _ _ _ he (cells + 1) (slots + n.toNatClampNeg) (by rw [hll]; omega) (by rw [hls]; omega) (by rw [hll]; exact hl1) (by rw [hls]; exact hl2) H1 locs ls ⟨hP1, hS1⟩ hL
        simpa only [List.map_cons, q_rv, q_rho_hi] using this
  · cases he
theorem qg_arr_bool {l : Launch} {P : QP} {B : Nat → Nat × Nat} {own : String} {cc : ByteArray} {nL pc : Nat} (hw : Cond.arrayClass .boolean ∈ q_GW) (h : decode cc pc = .ok (.newarray .boolean, 2)) : QGoodG l P B own cc nL pc (qa_arr (pc + 2) 12) := by
  intro p e s m args below meth c R D ty tb base X CG d lc lsl s0 Q cx hCG hroom hin Rt nx L S G M r he hn cells slots hz1 hz2 hz3 hz4 H locs ls hR hL
  obtain ⟨hx, hb, hml, hown, hts, hSt⟩ := cx
  obtain ⟨r1, r2, r3, r4, r5⟩ := hroom
  unfold qa_arr at he
  split at he
  · rename_i n S1
    split at he
    · cases he
    · rename_i hneg
      obtain ⟨hl, he⟩ := q_cond he
      rw [q_app_eq] at he
      obtain ⟨hl0, hl⟩ := q_and hl
      obtain ⟨hl1, hl2⟩ := q_and hl
      have hl0 := Nat.le_of_ble_eq_true hl0
      have hl1 := Nat.le_of_ble_eq_true hl1
      have hl2 := Nat.le_of_ble_eq_true hl2
      have hls : q_sl (G ++ [(12, n.toNatClampNeg, [])]) = q_sl G + n.toNatClampNeg := by rw [q_sl_app]; rfl
      have hll : (G ++ [(12, n.toNatClampNeg, ([] : List (Option Nat)))]).length = G.length + 1 := by simp
      simp only [List.map_cons, q_rv]
      refine va_newa (atype := .boolean) (a0 := (n.toNatClampNeg, .inl (fun _ => 0))) hx hb (hts _ hw) rfl hSt.1 hR.1 q_D hR.2 (q_base_A r5) (fun _ => rfl) hneg rfl ?_ (by omega) (by omega) h (fun q cA H1 hK1 hP1 hD1 hS1 => ?_)
      · have hc8 : componentBytes (newarray.typeOf .boolean) ≤ 8 := by decide
        have := Nat.mul_le_mul hl0 hc8
        exact Nat.le_trans this (by decide)
      · refine q_size (fun hsz => ?_)
        have hq := q_place hP1 hD1 hsz (by omega)
        subst hq
        have hcA := q_tyI hSt.1 2 rfl hK1
        subst hcA
        rw [q_W_push (q := (12, n.toNatClampNeg, [])) (by rw [q_ent_z rfl]; simp only [q_zero, q_uc_eq])] at hP1
        have := hn _ _ _ _ _ he (cells + 1) (slots + n.toNatClampNeg) (by rw [hll]; omega) (by rw [hls]; omega) (by rw [hll]; exact hl1) (by rw [hls]; exact hl2) H1 locs ls ⟨hP1, hS1⟩ hL
        simpa only [List.map_cons, q_rv, q_rho_hi] using this
  · cases he
theorem qg_arq {l : Launch} {P : QP} {B : Nat → Nat × Nat} {own : String} {cc : ByteArray} {nL pc index : Nat} (hw : Cond.classLink own index "RungByHeart$Shelf" ∈ q_GW) (h : decode cc pc = .ok (.anewarray index, 3)) : QGoodG l P B own cc nL pc (qa_arq (pc + 3)) := by
  intro p e s m args below meth c R D ty tb base X CG d lc lsl s0 Q cx hCG hroom hin Rt nx L S G M r he hn cells slots hz1 hz2 hz3 hz4 H locs ls hR hL
  obtain ⟨hx, hb, hml, hown, hts, hSt⟩ := cx
  obtain ⟨r1, r2, r3, r4, r5⟩ := hroom
  unfold qa_arq at he
  split at he
  · rename_i n S1
    split at he
    · cases he
    · rename_i hneg
      obtain ⟨hl, he⟩ := q_cond he
      rw [q_app_eq] at he
      obtain ⟨hl0, hl⟩ := q_and hl
      obtain ⟨hl1, hl2⟩ := q_and hl
      have hl0 := Nat.le_of_ble_eq_true hl0
      have hl1 := Nat.le_of_ble_eq_true hl1
      have hl2 := Nat.le_of_ble_eq_true hl2
      have hls : q_sl (G ++ [(13, n.toNatClampNeg, List.replicate n.toNatClampNeg none)]) = q_sl G + n.toNatClampNeg := by rw [q_sl_app]; rfl
      have hll : (G ++ [(13, n.toNatClampNeg, List.replicate n.toNatClampNeg (none : Option Nat))]).length = G.length + 1 := by simp
      simp only [List.map_cons, q_rv]
      refine va_newq hx hb hown (hts _ hw) hSt.2.2.2.2 hSt.1 hR.1 q_D hR.2 (q_base_A r5) hneg rfl (by omega) (by omega) (by omega) h (fun q cA H1 hK1 hP1 hD1 hS1 => ?_)
      refine q_size (fun hsz => ?_)
      have hq := q_place hP1 hD1 hsz (by omega)
      subst hq
      have hcA := q_tyI hSt.1 3 rfl hK1
      subst hcA
      have hnone : (fun j => (q_nth (List.replicate n.toNatClampNeg none) j).map (q_rho tb base)) = (fun _ => none) := by
        funext j
        rw [q_nth_get, List.getElem?_replicate]
        split <;> rfl
      rw [q_W_push (q := (13, n.toNatClampNeg, List.replicate n.toNatClampNeg none)) (by rw [q_ent_q (Nat.le_refl _)]; simp only [hnone])] at hP1
      have := hn _ _ _ _ _ he (cells + 1) (slots + n.toNatClampNeg) (by rw [hll]; omega) (by rw [hls]; omega) (by rw [hll]; exact hl1) (by rw [hls]; exact hl2) H1 locs ls ⟨hP1, hS1⟩ hL
      simpa only [List.map_cons, q_rv, q_rho_hi] using this
  · cases he
theorem q_sl_set {G : QG} {i : Nat} {q q' : QCell} (h : G[i]? = some q) (hq : q'.2.1 = q.2.1) : q_sl (G.set i q') = q_sl G := by
  induction G generalizing i with
  | nil => simp at h
  | cons a t ih => cases i with
    | zero => simp at h; subst h; simp [q_sl, hq]
    | succ i => simp only [List.set_cons_succ, q_sl]; rw [ih (by simpa using h)]
theorem q_nth_set (rs : List (Option Nat)) (k j : Nat) (v : Option Nat) (hk : k < rs.length) : q_nth (rs.set k v) j = if j = k then v else q_nth rs j := by
  rw [q_nth_get, q_nth_get, List.getElem?_set]
  by_cases h : j = k
  · subst h
    simp [hk]
  · have h2 : ¬ k = j := fun q => h q.symm
    simp [h, h2]
theorem qg_putA {l : Launch} {P : QP} {B : Nat → Nat × Nat} {own : String} {cc : ByteArray} {nL pc index ci k N : Nat} {C : String} {T : u_T} {ty0 : Nat → FieldType} (hc : QCls ci C T N ty0) (hk : k < N) (hf : q_fi ci k = false) (hfin : (T k).2.2.2 = true) (hdecl : (T k).1 = own) (hown2 : own ≠ "RungByHeartLaw") {t : FieldType} (hd : parseFieldDescriptor (T k).2.2.1 = some t) (hfit : ∀ a, fits t (.ref a) = true) (hnar : ∀ a, narrow t (.ref a) = .ref a) (hl : Cond.fieldLink own index (T k).1 (T k).2.1 (T k).2.2.1 ∈ q_GW) (h : decode cc pc = .ok (.putfield index, 3)) : QGoodG l P B own cc nL pc (qa_putA (pc + 3) ci k) := by
  intro p e s m args below meth c R D ty tb base X CG d lc lsl s0 Q cx hCG hroom hin Rt nx L S G M r he hn cells slots hz1 hz2 hz3 hz4 H locs ls hR hL
  obtain ⟨hx, hb, hml, hown, hts, hSt⟩ := cx
  have hin := hin.resolve_right hown2
  unfold qa_putA at he
  split at he
  · rename_i b a S1
    split at he
    · rename_i kd nn rs hq
      obtain ⟨h1, he2⟩ := q_cond he
      clear he
      rw [q_sets_eq, q_sets_eq] at he2
      obtain ⟨h1, h2⟩ := q_and h1
      obtain ⟨i, rfl, hG, hkd⟩ := q_objAt hq h1 hc.2.1
      have h2 : k < rs.length := by simpa [Nat.blt_eq] using h2
      have hkd : kd = ci := hkd
      subst hkd
      have hat := q_W_get (ty := ty) (tb := tb) (base := base) (M := M) hG
      rw [q_ent_obj rfl hc.2.1, q_nf_of hc] at hat
      have hi : i < G.length := (List.getElem?_eq_some_iff.mp hG).1
      have hlen : k < ((List.range N).map (q_fv tb base M (i + 4) kd rs)).length := by simpa using hk
      simp only [List.map_cons, q_rv, q_rho_hi]
      refine va_putF hx hb hts hc.2.2.2.2 ty0 hc.2.2.1 hc.2.2.2.1 hown hSt.1 hR.1 q_D hR.2 i hat hc.1 k hk (hts _ hl) (fun _ h9 => h9) hfin hin hdecl hd (hnar _) (hfit _) hlen h (fun H1 locs1 hP1 _ hS1 => ?_)
      have hset : ((List.range N).map (q_fv tb base M (i + 4) kd rs)).set k (.ref (q_rho tb base b)) = (List.range N).map (q_fv tb base M (i + 4) kd (rs.set k (some b))) := by
        apply List.ext_getElem?
        intro j
        by_cases hj : k = j
        · subst hj
          rw [List.getElem?_set_self (by simpa using hk)]
          simp [List.getElem?_range, hk, q_fv, hf, q_nth_set _ _ _ _ h2, va_rf]
        · have hj' : ¬ j = k := fun q => hj q.symm
          rw [List.getElem?_set_ne hj]
          by_cases hk2 : j < N
          · simp [List.getElem?_range, hk2, q_fv, q_nth_set _ _ _ _ h2, hj']
          · rw [List.getElem?_eq_none (by simp; omega), List.getElem?_eq_none (by simp; omega)]
      rw [hset, q_W_setG (q' := (kd, nn, rs.set k (some b))) (by rw [q_ent_obj rfl hc.2.1, q_nf_of hc]) hi] at hP1
      have hsl : q_sl (G.set i (kd, nn, rs.set k (some b))) = q_sl G := q_sl_set hG rfl
      exact hn _ _ _ _ _ he2 cells slots (by rw [show i + 4 - 4 = i by omega, List.length_set]; exact hz1) (by rw [show i + 4 - 4 = i by omega, hsl]; exact hz2) (by rw [List.length_set]; exact hz3) (by rw [show i + 4 - 4 = i by omega, hsl]; exact hz4) H1 locs1 ls ⟨by rw [show i + 4 - 4 = i by omega]; exact hP1, hS1⟩ hL
    · cases he
  · cases he
theorem qg_aast {l : Launch} {P : QP} {B : Nat → Nat × Nat} {own : String} {cc : ByteArray} {nL pc : Nat} {C : String} {T : u_T} {N : Nat} (hc5 : vwCl[5]? = some ("RungByHeart$Shelf", T, N)) (h : decode cc pc = .ok (.aastore, 1)) : QGoodG l P B own cc nL pc (qa_aast (pc + 1)) := by
  intro p e s m args below meth c R D ty tb base X CG d lc lsl s0 Q cx hCG hroom hin Rt nx L S G M r he hn cells slots hz1 hz2 hz3 hz4 H locs ls hR hL
  obtain ⟨hx, hb, hml, hown, hts, hSt⟩ := cx
  unfold qa_aast at he
  split at he
  · rename_i b i a S1
    split at he
    · rename_i kd nn rs kb nb rb hq hqb
      split at he
      · cases he
      · rename_i hinn
        obtain ⟨h1, he2⟩ := q_cond he
        clear he
        rw [q_sets_eq, q_sets_eq] at he2
        obtain ⟨h1, h2⟩ := q_and h1
        obtain ⟨h2, h3⟩ := q_and h2
        obtain ⟨j, rfl, hG, hkd⟩ := q_arrAt hq h1 (by decide)
        obtain ⟨jb, rfl, hGb, hkb⟩ := q_objAt hqb h2 (by decide)
        have h3 : i.toNatClampNeg < rs.length := by simpa [Nat.blt_eq] using h3
        have hkd : kd = 13 := hkd
        subst hkd
        have hat := q_W_get (ty := ty) (tb := tb) (base := base) (M := M) hG
        rw [q_ent_q (Nat.le_refl _)] at hat
        have hatb := q_W_get (ty := ty) (tb := tb) (base := base) (M := M) hGb
        rw [q_ent_obj hkb (by decide)] at hatb
        have hi : j < G.length := (List.getElem?_eq_some_iff.mp hG).1
        simp only [List.map_cons, q_rv, q_rho_hi]
        refine va_astq hx hb hSt.1 hR.1 q_D hR.2 j 3 jb 5 hat (r := ("RungByHeart$Shelf", T, N)) rfl hatb hc5 (q_in_of hinn) h (fun H1 locs1 hP1 _ hS1 => ?_)
        rw [q_W_setG (q' := (13, nn, rs.set i.toNatClampNeg (some (jb + 4)))) (by
          rw [q_ent_q (Nat.le_refl _)]
          congr 7
          funext x
          rw [q_nth_set _ _ _ _ h3]
          unfold va_up
          split
          · simp [q_rho_hi]
          · rfl) hi] at hP1
        have hsl : q_sl (G.set j (13, nn, rs.set i.toNatClampNeg (some (jb + 4)))) = q_sl G := q_sl_set hG rfl
        exact hn _ _ _ _ _ he2 cells slots (by rw [show j + 4 - 4 = j by omega, List.length_set]; exact hz1) (by rw [show j + 4 - 4 = j by omega, hsl]; exact hz2) (by rw [List.length_set]; exact hz3) (by rw [show j + 4 - 4 = j by omega, hsl]; exact hz4) H1 locs1 ls ⟨by rw [show j + 4 - 4 = j by omega]; exact hP1, hS1⟩ hL
    · cases he
  · cases he
