/-! THE INSTRUCTIONS, one by one: numbers, locals, stack, branches -/
theorem q_cond {β : Type} {b : Bool} {o : Option β} {r : β} (h : cond b o none = some r) : b = true ∧ o = some r := by
  cases b
  · cases h
  · exact ⟨rfl, h⟩
theorem q_one_cat {tb : Nat → Nat} {base : Nat} {v : Value} (h : q_one v = true) : (q_rv tb base v).category = 1 := by
  rw [q_rv_cat]
  cases v <;> first | rfl | cases h
/-- behind a store of a two-word value -/
theorem QLR.putL {tb : Nat → Nat} {base nL : Nat} {ls ls' : Array Slot} {L : QL} (h : QLR tb base nL ls L) {i : Nat} {w : Int64}
    (h' : lv_has ls' nL ((i, Value.long w) :: (q_lv tb base nL L).filter (fun q => !(q.1 == i) && (!(q.1 == i + 1) && !(q.1 + 1 == i && q.2.category == 2))))) : QLR tb base nL ls' (q_clrL (q_putL L i (.long w)) (i + 1)) := by
  refine ⟨⟨h'.1, h'.2.1, fun q hq => by cases hq⟩, fun j v hv => ?_⟩
  obtain ⟨h0, hv⟩ := q_clrL_get _ _ _ _ hv
  rcases q_putL_get L i (.long w) j v hv with ⟨rfl, rfl⟩ | ⟨h1, h2, h3⟩
  · exact h'.2.2 (j, .long w) List.mem_cons_self
  · refine h'.2.2 (j, q_rv tb base v) (List.mem_cons_of_mem _ (List.mem_filter.mpr ⟨h.mem h2, ?_⟩))
    have e1 : (j == i) = false := by simp; omega
    have e3 : (j == i + 1) = false := by simp; omega
    by_cases hj : j + 1 = i
    · have hc : ¬ v.category = 2 := fun hc => h3 ⟨hj, hc⟩
      have e2 : ((q_rv tb base v).category == 2) = false := by rw [q_rv_cat]; simp [hc]
      simp only [e1, e2, e3]
      simp
    · have e2 : (j + 1 == i) = false := by simp [hj]
      simp only [e1, e2, e3]
      simp
theorem qg_iconst {l : Launch} {P : QP} {own : String} {cc : ByteArray} {nL pc : Nat} {ret : Option FieldType} {n : Int} {v : Int32} (h : decode cc pc = .ok (.iconst n, 1)) (hv : Int32.ofInt n = v) : QGood l P own cc nL ret pc (qi_const (pc + 1) (.int v)) := by
  intro p e s m args below meth c R D ty tb base X G C d cells slots Q cx hC hroom Rt nx rt L S M r he hn hr H locs ls hR hL
  obtain ⟨hx, hb, hml, hown, hts, hSt⟩ := cx
  exact lv_iconst hx hb h hv (hn _ _ _ _ he H locs ls hR hL)
theorem qg_bipush {l : Launch} {P : QP} {own : String} {cc : ByteArray} {nL pc : Nat} {ret : Option FieldType} {n : Int} {v : Int32} (h : decode cc pc = .ok (.bipush n, 2)) (hv : (Int8.ofInt n).toInt32 = v) : QGood l P own cc nL ret pc (qi_const (pc + 2) (.int v)) := by
  intro p e s m args below meth c R D ty tb base X G C d cells slots Q cx hC hroom Rt nx rt L S M r he hn hr H locs ls hR hL
  obtain ⟨hx, hb, hml, hown, hts, hSt⟩ := cx
  exact lv_bipush hx hb h hv (hn _ _ _ _ he H locs ls hR hL)
theorem qg_sipush {l : Launch} {P : QP} {own : String} {cc : ByteArray} {nL pc : Nat} {ret : Option FieldType} {n : Int} {v : Int32} (h : decode cc pc = .ok (.sipush n, 3)) (hv : (Int16.ofInt n).toInt32 = v) : QGood l P own cc nL ret pc (qi_const (pc + 3) (.int v)) := by
  intro p e s m args below meth c R D ty tb base X G C d cells slots Q cx hC hroom Rt nx rt L S M r he hn hr H locs ls hR hL
  obtain ⟨hx, hb, hml, hown, hts, hSt⟩ := cx
  exact lv_sipush hx hb h hv (hn _ _ _ _ he H locs ls hR hL)
theorem qg_lconst {l : Launch} {P : QP} {own : String} {cc : ByteArray} {nL pc : Nat} {ret : Option FieldType} {n : Fin 2} {v : Int64} (h : decode cc pc = .ok (.lconst n, 1)) (hv : Int64.ofNat (n : Nat) = v) : QGood l P own cc nL ret pc (qi_const (pc + 1) (.long v)) := by
  intro p e s m args below meth c R D ty tb base X G C d cells slots Q cx hC hroom Rt nx rt L S M r he hn hr H locs ls hR hL
  obtain ⟨hx, hb, hml, hown, hts, hSt⟩ := cx
  exact lv_lconst hx hb h hv (hn _ _ _ _ he H locs ls hR hL)
theorem qg_null {l : Launch} {P : QP} {own : String} {cc : ByteArray} {nL pc : Nat} {ret : Option FieldType} (h : decode cc pc = .ok (.aconst_null, 1)) : QGood l P own cc nL ret pc (qi_const (pc + 1) .null) := by
  intro p e s m args below meth c R D ty tb base X G C d cells slots Q cx hC hroom Rt nx rt L S M r he hn hr H locs ls hR hL
  obtain ⟨hx, hb, hml, hown, hts, hSt⟩ := cx
  exact lv_null hx hb h (hn _ _ _ _ he H locs ls hR hL)
theorem qg_ldc {l : Launch} {P : QP} {own : String} {cc : ByteArray} {nL pc : Nat} {ret : Option FieldType} {index : Nat} {v : Int32} (hw : Cond.constant own index v ∈ q_GW) (h : decode cc pc = .ok (.ldc index, 2)) : QGood l P own cc nL ret pc (qi_const (pc + 2) (.int v)) := by
  intro p e s m args below meth c R D ty tb base X G C d cells slots Q cx hC hroom Rt nx rt L S M r he hn hr H locs ls hR hL
  obtain ⟨hx, hb, hml, hown, hts, hSt⟩ := cx
  exact lv_ldc hx hb hown (hts _ hw) h (hn _ _ _ _ he H locs ls hR hL)
theorem qg_ldcw {l : Launch} {P : QP} {own : String} {cc : ByteArray} {nL pc : Nat} {ret : Option FieldType} {index : Nat} {v : Int32} (hw : Cond.constant own index v ∈ q_GW) (h : decode cc pc = .ok (.ldc_w index, 3)) : QGood l P own cc nL ret pc (qi_const (pc + 3) (.int v)) := by
  intro p e s m args below meth c R D ty tb base X G C d cells slots Q cx hC hroom Rt nx rt L S M r he hn hr H locs ls hR hL
  obtain ⟨hx, hb, hml, hown, hts, hSt⟩ := cx
  exact lv_ldcw hx hb hown (hts _ hw) h (hn _ _ _ _ he H locs ls hR hL)
theorem qg_ldc2 {l : Launch} {P : QP} {own : String} {cc : ByteArray} {nL pc : Nat} {ret : Option FieldType} {index : Nat} {v : Int64} (hw : Cond.constantLong own index v ∈ q_GW) (h : decode cc pc = .ok (.ldc2_w index, 3)) : QGood l P own cc nL ret pc (qi_const (pc + 3) (.long v)) := by
  intro p e s m args below meth c R D ty tb base X G C d cells slots Q cx hC hroom Rt nx rt L S M r he hn hr H locs ls hR hL
  obtain ⟨hx, hb, hml, hown, hts, hSt⟩ := cx
  exact lv_ldc2 hx hb hown (hts _ hw) h (hn _ _ _ _ he H locs ls hR hL)
theorem qg_iload {l : Launch} {P : QP} {own : String} {cc : ByteArray} {nL pc : Nat} {ret : Option FieldType} {i : Nat} (h : decode cc pc = .ok (.iload i, 2)) : QGood l P own cc nL ret pc (qi_iload (pc + 2) i) := by
  intro p e s m args below meth c R D ty tb base X G C d cells slots Q cx hC hroom Rt nx rt L S M r he hn hr H locs ls hR hL
  obtain ⟨hx, hb, hml, hown, hts, hSt⟩ := cx
  unfold qi_iload at he
  split at he
  · rename_i hg
    exact lv_iload hx hb h (hL.2 _ _ hg) (hn _ _ _ _ he H locs ls hR hL)
  · cases he
theorem qg_iload_n {l : Launch} {P : QP} {own : String} {cc : ByteArray} {nL pc : Nat} {ret : Option FieldType} {k : Fin 4} {i : Nat} (h : decode cc pc = .ok (.iload_n k, 1)) (hi : (k : Nat) = i) : QGood l P own cc nL ret pc (qi_iload (pc + 1) i) := by
  intro p e s m args below meth c R D ty tb base X G C d cells slots Q cx hC hroom Rt nx rt L S M r he hn hr H locs ls hR hL
  obtain ⟨hx, hb, hml, hown, hts, hSt⟩ := cx
  unfold qi_iload at he
  split at he
  · rename_i hg
    exact lv_iload_n hx hb h hi (hL.2 _ _ hg) (hn _ _ _ _ he H locs ls hR hL)
  · cases he
theorem qg_lload {l : Launch} {P : QP} {own : String} {cc : ByteArray} {nL pc : Nat} {ret : Option FieldType} {i : Nat} (h : decode cc pc = .ok (.lload i, 2)) : QGood l P own cc nL ret pc (qi_lload (pc + 2) i) := by
  intro p e s m args below meth c R D ty tb base X G C d cells slots Q cx hC hroom Rt nx rt L S M r he hn hr H locs ls hR hL
  obtain ⟨hx, hb, hml, hown, hts, hSt⟩ := cx
  unfold qi_lload at he
  split at he
  · rename_i hg
    exact lv_lload hx hb h (hL.2 _ _ hg) (hn _ _ _ _ he H locs ls hR hL)
  · cases he
theorem qg_lload_n {l : Launch} {P : QP} {own : String} {cc : ByteArray} {nL pc : Nat} {ret : Option FieldType} {k : Fin 4} {i : Nat} (h : decode cc pc = .ok (.lload_n k, 1)) (hi : (k : Nat) = i) : QGood l P own cc nL ret pc (qi_lload (pc + 1) i) := by
  intro p e s m args below meth c R D ty tb base X G C d cells slots Q cx hC hroom Rt nx rt L S M r he hn hr H locs ls hR hL
  obtain ⟨hx, hb, hml, hown, hts, hSt⟩ := cx
  unfold qi_lload at he
  split at he
  · rename_i hg
    exact lv_lload_n hx hb h hi (hL.2 _ _ hg) (hn _ _ _ _ he H locs ls hR hL)
  · cases he
theorem qg_aload {l : Launch} {P : QP} {own : String} {cc : ByteArray} {nL pc : Nat} {ret : Option FieldType} {i : Nat} (h : decode cc pc = .ok (.aload i, 2)) : QGood l P own cc nL ret pc (qi_aload (pc + 2) i) := by
  intro p e s m args below meth c R D ty tb base X G C d cells slots Q cx hC hroom Rt nx rt L S M r he hn hr H locs ls hR hL
  obtain ⟨hx, hb, hml, hown, hts, hSt⟩ := cx
  unfold qi_aload at he
  split at he
  · rename_i hg
    exact lv_aload hx hb h (hL.2 _ _ hg) (hn _ _ _ _ he H locs ls hR hL)
  · rename_i hg
    exact lv_aloadN hx hb h (hL.2 _ _ hg) (hn _ _ _ _ he H locs ls hR hL)
  · cases he
theorem qg_aload_n {l : Launch} {P : QP} {own : String} {cc : ByteArray} {nL pc : Nat} {ret : Option FieldType} {k : Fin 4} {i : Nat} (h : decode cc pc = .ok (.aload_n k, 1)) (hi : (k : Nat) = i) : QGood l P own cc nL ret pc (qi_aload (pc + 1) i) := by
  intro p e s m args below meth c R D ty tb base X G C d cells slots Q cx hC hroom Rt nx rt L S M r he hn hr H locs ls hR hL
  obtain ⟨hx, hb, hml, hown, hts, hSt⟩ := cx
  unfold qi_aload at he
  split at he
  · rename_i hg
    exact lv_aload_n hx hb h hi (hL.2 _ _ hg) (hn _ _ _ _ he H locs ls hR hL)
  · rename_i hg
    exact lv_aload_nN hx hb h hi (hL.2 _ _ hg) (hn _ _ _ _ he H locs ls hR hL)
  · cases he
theorem qg_istore {l : Launch} {P : QP} {own : String} {cc : ByteArray} {nL pc : Nat} {ret : Option FieldType} {i : Nat} (h : decode cc pc = .ok (.istore i, 2)) (hi2 : i < nL) : QGood l P own cc nL ret pc (qi_istore (pc + 2) i) := by
  intro p e s m args below meth c R D ty tb base X G C d cells slots Q cx hC hroom Rt nx rt L S M r he hn hr H locs ls hR hL
  obtain ⟨hx, hb, hml, hown, hts, hSt⟩ := cx
  unfold qi_istore at he
  split at he
  · rw [q_put_eq] at he
    exact lv_istore hx hb h hL.has hi2 rfl (fun ls' h' => hn _ _ _ _ he H locs ls' hR (hL.put h'))
  · cases he
theorem qg_astore {l : Launch} {P : QP} {own : String} {cc : ByteArray} {nL pc : Nat} {ret : Option FieldType} {i : Nat} (h : decode cc pc = .ok (.astore i, 2)) (hi2 : i < nL) : QGood l P own cc nL ret pc (qi_astore (pc + 2) i) := by
  intro p e s m args below meth c R D ty tb base X G C d cells slots Q cx hC hroom Rt nx rt L S M r he hn hr H locs ls hR hL
  obtain ⟨hx, hb, hml, hown, hts, hSt⟩ := cx
  unfold qi_astore at he
  split at he
  · rw [q_put_eq] at he
    exact lv_astore hx hb h hL.has hi2 rfl (fun ls' h' => hn _ _ _ _ he H locs ls' hR (hL.put h'))
  · rw [q_put_eq] at he
    exact lv_astoreN hx hb h hL.has hi2 rfl (fun ls' h' => hn _ _ _ _ he H locs ls' hR (hL.put (w := .null) h'))
  · cases he
theorem qg_lstore {l : Launch} {P : QP} {own : String} {cc : ByteArray} {nL pc : Nat} {ret : Option FieldType} {i : Nat} (h : decode cc pc = .ok (.lstore i, 2)) (hi2 : i + 1 < nL) : QGood l P own cc nL ret pc (qi_lstore (pc + 2) i) := by
  intro p e s m args below meth c R D ty tb base X G C d cells slots Q cx hC hroom Rt nx rt L S M r he hn hr H locs ls hR hL
  obtain ⟨hx, hb, hml, hown, hts, hSt⟩ := cx
  unfold qi_lstore at he
  split at he
  · rw [q_put_eq, q_clr_eq] at he
    exact lv_lstore hx hb h hL.has hi2 rfl (fun ls' h' => hn _ _ _ _ he H locs ls' hR (hL.putL h'))
  · cases he
theorem qg_istore_n {l : Launch} {P : QP} {own : String} {cc : ByteArray} {nL pc : Nat} {ret : Option FieldType} {k : Fin 4} {i : Nat} (h : decode cc pc = .ok (.istore_n k, 1)) (hi : (k : Nat) = i) (hi2 : i < nL) : QGood l P own cc nL ret pc (qi_istore (pc + 1) i) := by
  intro p e s m args below meth c R D ty tb base X G C d cells slots Q cx hC hroom Rt nx rt L S M r he hn hr H locs ls hR hL
  obtain ⟨hx, hb, hml, hown, hts, hSt⟩ := cx
  unfold qi_istore at he
  split at he
  · rw [q_put_eq] at he
    exact lv_istore_n hx hb h hi hL.has hi2 rfl (fun ls' h' => hn _ _ _ _ he H locs ls' hR (hL.put h'))
  · cases he
theorem qg_astore_n {l : Launch} {P : QP} {own : String} {cc : ByteArray} {nL pc : Nat} {ret : Option FieldType} {k : Fin 4} {i : Nat} (h : decode cc pc = .ok (.astore_n k, 1)) (hi : (k : Nat) = i) (hi2 : i < nL) : QGood l P own cc nL ret pc (qi_astore (pc + 1) i) := by
  intro p e s m args below meth c R D ty tb base X G C d cells slots Q cx hC hroom Rt nx rt L S M r he hn hr H locs ls hR hL
  obtain ⟨hx, hb, hml, hown, hts, hSt⟩ := cx
  unfold qi_astore at he
  split at he
  · rw [q_put_eq] at he
    exact lv_astore_n hx hb h hi hL.has hi2 rfl (fun ls' h' => hn _ _ _ _ he H locs ls' hR (hL.put h'))
  · rw [q_put_eq] at he
    exact lv_astore_nN hx hb h hi hL.has hi2 rfl (fun ls' h' => hn _ _ _ _ he H locs ls' hR (hL.put (w := .null) h'))
  · cases he
theorem qg_lstore_n {l : Launch} {P : QP} {own : String} {cc : ByteArray} {nL pc : Nat} {ret : Option FieldType} {k : Fin 4} {i : Nat} (h : decode cc pc = .ok (.lstore_n k, 1)) (hi : (k : Nat) = i) (hi2 : i + 1 < nL) : QGood l P own cc nL ret pc (qi_lstore (pc + 1) i) := by
  intro p e s m args below meth c R D ty tb base X G C d cells slots Q cx hC hroom Rt nx rt L S M r he hn hr H locs ls hR hL
  obtain ⟨hx, hb, hml, hown, hts, hSt⟩ := cx
  unfold qi_lstore at he
  split at he
  · rw [q_put_eq, q_clr_eq] at he
    exact lv_lstore_n hx hb h hi hL.has hi2 rfl (fun ls' h' => hn _ _ _ _ he H locs ls' hR (hL.putL h'))
  · cases he
theorem qg_iinc {l : Launch} {P : QP} {own : String} {cc : ByteArray} {nL pc : Nat} {ret : Option FieldType} {i : Nat} {n : Int} {v : Int32} (h : decode cc pc = .ok (.iinc i n, 3)) (hv : Int32.ofInt n = v) (hi2 : i < nL) : QGood l P own cc nL ret pc (qi_iinc (pc + 3) i v) := by
  intro p e s m args below meth c R D ty tb base X G C d cells slots Q cx hC hroom Rt nx rt L S M r he hn hr H locs ls hR hL
  obtain ⟨hx, hb, hml, hown, hts, hSt⟩ := cx
  subst hv
  unfold qi_iinc at he
  split at he
  · rename_i hg
    rw [q_put_eq] at he
    obtain ⟨k, hk⟩ := List.mem_iff_getElem?.mp (hL.mem hg)
    exact lv_iinc hx hb h hL.has hk rfl hi2 rfl (fun ls' h' => hn _ _ _ _ he H locs ls' hR (hL.put h'))
  · cases he
theorem qg_iadd {l : Launch} {P : QP} {own : String} {cc : ByteArray} {nL pc : Nat} {ret : Option FieldType} (h : decode cc pc = .ok (.iadd, 1)) : QGood l P own cc nL ret pc (qi_bin (pc + 1) (fun x y => x + y)) := by
  intro p e s m args below meth c R D ty tb base X G C d cells slots Q cx hC hroom Rt nx rt L S M r he hn hr H locs ls hR hL
  obtain ⟨hx, hb, hml, hown, hts, hSt⟩ := cx
  unfold qi_bin at he
  split at he
  · exact lv_iadd hx hb h (hn _ _ _ _ he H locs ls hR hL)
  · cases he
theorem qg_isub {l : Launch} {P : QP} {own : String} {cc : ByteArray} {nL pc : Nat} {ret : Option FieldType} (h : decode cc pc = .ok (.isub, 1)) : QGood l P own cc nL ret pc (qi_bin (pc + 1) (fun x y => x - y)) := by
  intro p e s m args below meth c R D ty tb base X G C d cells slots Q cx hC hroom Rt nx rt L S M r he hn hr H locs ls hR hL
  obtain ⟨hx, hb, hml, hown, hts, hSt⟩ := cx
  unfold qi_bin at he
  split at he
  · exact lv_isub hx hb h (hn _ _ _ _ he H locs ls hR hL)
  · cases he
theorem qg_imul {l : Launch} {P : QP} {own : String} {cc : ByteArray} {nL pc : Nat} {ret : Option FieldType} (h : decode cc pc = .ok (.imul, 1)) : QGood l P own cc nL ret pc (qi_bin (pc + 1) (fun x y => x * y)) := by
  intro p e s m args below meth c R D ty tb base X G C d cells slots Q cx hC hroom Rt nx rt L S M r he hn hr H locs ls hR hL
  obtain ⟨hx, hb, hml, hown, hts, hSt⟩ := cx
  unfold qi_bin at he
  split at he
  · exact lv_imul hx hb h (hn _ _ _ _ he H locs ls hR hL)
  · cases he
theorem qg_iand {l : Launch} {P : QP} {own : String} {cc : ByteArray} {nL pc : Nat} {ret : Option FieldType} (h : decode cc pc = .ok (.iand, 1)) : QGood l P own cc nL ret pc (qi_bin (pc + 1) (fun x y => x &&& y)) := by
  intro p e s m args below meth c R D ty tb base X G C d cells slots Q cx hC hroom Rt nx rt L S M r he hn hr H locs ls hR hL
  obtain ⟨hx, hb, hml, hown, hts, hSt⟩ := cx
  unfold qi_bin at he
  split at he
  · exact lv_iand hx hb h (hn _ _ _ _ he H locs ls hR hL)
  · cases he
theorem qg_ior {l : Launch} {P : QP} {own : String} {cc : ByteArray} {nL pc : Nat} {ret : Option FieldType} (h : decode cc pc = .ok (.ior, 1)) : QGood l P own cc nL ret pc (qi_bin (pc + 1) (fun x y => x ||| y)) := by
  intro p e s m args below meth c R D ty tb base X G C d cells slots Q cx hC hroom Rt nx rt L S M r he hn hr H locs ls hR hL
  obtain ⟨hx, hb, hml, hown, hts, hSt⟩ := cx
  unfold qi_bin at he
  split at he
  · exact lv_ior hx hb h (hn _ _ _ _ he H locs ls hR hL)
  · cases he
theorem qg_ixor {l : Launch} {P : QP} {own : String} {cc : ByteArray} {nL pc : Nat} {ret : Option FieldType} (h : decode cc pc = .ok (.ixor, 1)) : QGood l P own cc nL ret pc (qi_bin (pc + 1) (fun x y => x ^^^ y)) := by
  intro p e s m args below meth c R D ty tb base X G C d cells slots Q cx hC hroom Rt nx rt L S M r he hn hr H locs ls hR hL
  obtain ⟨hx, hb, hml, hown, hts, hSt⟩ := cx
  unfold qi_bin at he
  split at he
  · exact lv_ixor hx hb h (hn _ _ _ _ he H locs ls hR hL)
  · cases he
theorem qg_ishl {l : Launch} {P : QP} {own : String} {cc : ByteArray} {nL pc : Nat} {ret : Option FieldType} (h : decode cc pc = .ok (.ishl, 1)) : QGood l P own cc nL ret pc (qi_bin (pc + 1) (fun x y => x <<< (y &&& 31))) := by
  intro p e s m args below meth c R D ty tb base X G C d cells slots Q cx hC hroom Rt nx rt L S M r he hn hr H locs ls hR hL
  obtain ⟨hx, hb, hml, hown, hts, hSt⟩ := cx
  unfold qi_bin at he
  split at he
  · exact lv_ishl hx hb h (hn _ _ _ _ he H locs ls hR hL)
  · cases he
theorem qg_ishr {l : Launch} {P : QP} {own : String} {cc : ByteArray} {nL pc : Nat} {ret : Option FieldType} (h : decode cc pc = .ok (.ishr, 1)) : QGood l P own cc nL ret pc (qi_bin (pc + 1) (fun x y => x >>> (y &&& 31))) := by
  intro p e s m args below meth c R D ty tb base X G C d cells slots Q cx hC hroom Rt nx rt L S M r he hn hr H locs ls hR hL
  obtain ⟨hx, hb, hml, hown, hts, hSt⟩ := cx
  unfold qi_bin at he
  split at he
  · exact lv_ishr hx hb h (hn _ _ _ _ he H locs ls hR hL)
  · cases he
theorem qg_iushr {l : Launch} {P : QP} {own : String} {cc : ByteArray} {nL pc : Nat} {ret : Option FieldType} (h : decode cc pc = .ok (.iushr, 1)) : QGood l P own cc nL ret pc (qi_bin (pc + 1) (fun x y => (x.toUInt32 >>> (y.toUInt32 &&& Int32.toUInt32 31)).toInt32)) := by
  intro p e s m args below meth c R D ty tb base X G C d cells slots Q cx hC hroom Rt nx rt L S M r he hn hr H locs ls hR hL
  obtain ⟨hx, hb, hml, hown, hts, hSt⟩ := cx
  unfold qi_bin at he
  split at he
  · exact lv_iushr hx hb h rfl (hn _ _ _ _ he H locs ls hR hL)
  · cases he
theorem qg_idiv {l : Launch} {P : QP} {own : String} {cc : ByteArray} {nL pc : Nat} {ret : Option FieldType} (h : decode cc pc = .ok (.idiv, 1)) : QGood l P own cc nL ret pc (qi_div (pc + 1) (fun x y => x / y)) := by
  intro p e s m args below meth c R D ty tb base X G C d cells slots Q cx hC hroom Rt nx rt L S M r he hn hr H locs ls hR hL
  obtain ⟨hx, hb, hml, hown, hts, hSt⟩ := cx
  unfold qi_div at he
  split at he
  · split at he
    · cases he
    · rename_i hz
      exact lv_idiv hx hb h hz (hn _ _ _ _ he H locs ls hR hL)
  · cases he
theorem qg_irem {l : Launch} {P : QP} {own : String} {cc : ByteArray} {nL pc : Nat} {ret : Option FieldType} (h : decode cc pc = .ok (.irem, 1)) : QGood l P own cc nL ret pc (qi_div (pc + 1) (fun x y => x - x / y * y)) := by
  intro p e s m args below meth c R D ty tb base X G C d cells slots Q cx hC hroom Rt nx rt L S M r he hn hr H locs ls hR hL
  obtain ⟨hx, hb, hml, hown, hts, hSt⟩ := cx
  unfold qi_div at he
  split at he
  · split at he
    · cases he
    · rename_i hz
      exact lv_irem hx hb h hz (hn _ _ _ _ he H locs ls hR hL)
  · cases he
theorem qg_ineg {l : Launch} {P : QP} {own : String} {cc : ByteArray} {nL pc : Nat} {ret : Option FieldType} (h : decode cc pc = .ok (.ineg, 1)) : QGood l P own cc nL ret pc (qi_un (pc + 1) (fun x => -x)) := by
  intro p e s m args below meth c R D ty tb base X G C d cells slots Q cx hC hroom Rt nx rt L S M r he hn hr H locs ls hR hL
  obtain ⟨hx, hb, hml, hown, hts, hSt⟩ := cx
  unfold qi_un at he
  split at he
  · exact lv_ineg hx hb h (hn _ _ _ _ he H locs ls hR hL)
  · cases he
theorem qg_i2b {l : Launch} {P : QP} {own : String} {cc : ByteArray} {nL pc : Nat} {ret : Option FieldType} (h : decode cc pc = .ok (.i2b, 1)) : QGood l P own cc nL ret pc (qi_un (pc + 1) (fun x => x.toInt8.toInt32)) := by
  intro p e s m args below meth c R D ty tb base X G C d cells slots Q cx hC hroom Rt nx rt L S M r he hn hr H locs ls hR hL
  obtain ⟨hx, hb, hml, hown, hts, hSt⟩ := cx
  unfold qi_un at he
  split at he
  · exact lv_i2b hx hb h rfl (hn _ _ _ _ he H locs ls hR hL)
  · cases he
theorem qg_i2s {l : Launch} {P : QP} {own : String} {cc : ByteArray} {nL pc : Nat} {ret : Option FieldType} (h : decode cc pc = .ok (.i2s, 1)) : QGood l P own cc nL ret pc (qi_un (pc + 1) (fun x => x.toInt16.toInt32)) := by
  intro p e s m args below meth c R D ty tb base X G C d cells slots Q cx hC hroom Rt nx rt L S M r he hn hr H locs ls hR hL
  obtain ⟨hx, hb, hml, hown, hts, hSt⟩ := cx
  unfold qi_un at he
  split at he
  · exact lv_i2s hx hb h rfl (hn _ _ _ _ he H locs ls hR hL)
  · cases he
theorem qg_ladd {l : Launch} {P : QP} {own : String} {cc : ByteArray} {nL pc : Nat} {ret : Option FieldType} (h : decode cc pc = .ok (.ladd, 1)) : QGood l P own cc nL ret pc (qi_lbin (pc + 1) (fun x y => x + y)) := by
  intro p e s m args below meth c R D ty tb base X G C d cells slots Q cx hC hroom Rt nx rt L S M r he hn hr H locs ls hR hL
  obtain ⟨hx, hb, hml, hown, hts, hSt⟩ := cx
  unfold qi_lbin at he
  split at he
  · exact lv_ladd hx hb h (hn _ _ _ _ he H locs ls hR hL)
  · cases he
theorem qg_lmul {l : Launch} {P : QP} {own : String} {cc : ByteArray} {nL pc : Nat} {ret : Option FieldType} (h : decode cc pc = .ok (.lmul, 1)) : QGood l P own cc nL ret pc (qi_lbin (pc + 1) (fun x y => x * y)) := by
  intro p e s m args below meth c R D ty tb base X G C d cells slots Q cx hC hroom Rt nx rt L S M r he hn hr H locs ls hR hL
  obtain ⟨hx, hb, hml, hown, hts, hSt⟩ := cx
  unfold qi_lbin at he
  split at he
  · exact lv_lmul hx hb h (hn _ _ _ _ he H locs ls hR hL)
  · cases he
theorem qg_land {l : Launch} {P : QP} {own : String} {cc : ByteArray} {nL pc : Nat} {ret : Option FieldType} (h : decode cc pc = .ok (.land, 1)) : QGood l P own cc nL ret pc (qi_lbin (pc + 1) (fun x y => x &&& y)) := by
  intro p e s m args below meth c R D ty tb base X G C d cells slots Q cx hC hroom Rt nx rt L S M r he hn hr H locs ls hR hL
  obtain ⟨hx, hb, hml, hown, hts, hSt⟩ := cx
  unfold qi_lbin at he
  split at he
  · exact lv_land hx hb h (hn _ _ _ _ he H locs ls hR hL)
  · cases he
theorem qg_lor {l : Launch} {P : QP} {own : String} {cc : ByteArray} {nL pc : Nat} {ret : Option FieldType} (h : decode cc pc = .ok (.lor, 1)) : QGood l P own cc nL ret pc (qi_lbin (pc + 1) (fun x y => x ||| y)) := by
  intro p e s m args below meth c R D ty tb base X G C d cells slots Q cx hC hroom Rt nx rt L S M r he hn hr H locs ls hR hL
  obtain ⟨hx, hb, hml, hown, hts, hSt⟩ := cx
  unfold qi_lbin at he
  split at he
  · exact lv_lor hx hb h (hn _ _ _ _ he H locs ls hR hL)
  · cases he
theorem qg_lshl {l : Launch} {P : QP} {own : String} {cc : ByteArray} {nL pc : Nat} {ret : Option FieldType} (h : decode cc pc = .ok (.lshl, 1)) : QGood l P own cc nL ret pc (qi_lsh (pc + 1) (fun x y => x <<< (y.toInt64 &&& 63))) := by
  intro p e s m args below meth c R D ty tb base X G C d cells slots Q cx hC hroom Rt nx rt L S M r he hn hr H locs ls hR hL
  obtain ⟨hx, hb, hml, hown, hts, hSt⟩ := cx
  unfold qi_lsh at he
  split at he
  · exact lv_lshl hx hb h rfl (hn _ _ _ _ he H locs ls hR hL)
  · cases he
theorem qg_i2l {l : Launch} {P : QP} {own : String} {cc : ByteArray} {nL pc : Nat} {ret : Option FieldType} (h : decode cc pc = .ok (.i2l, 1)) : QGood l P own cc nL ret pc (qi_i2l (pc + 1)) := by
  intro p e s m args below meth c R D ty tb base X G C d cells slots Q cx hC hroom Rt nx rt L S M r he hn hr H locs ls hR hL
  obtain ⟨hx, hb, hml, hown, hts, hSt⟩ := cx
  unfold qi_i2l at he
  split at he
  · exact lv_i2l hx hb h rfl (hn _ _ _ _ he H locs ls hR hL)
  · cases he
theorem qg_l2i {l : Launch} {P : QP} {own : String} {cc : ByteArray} {nL pc : Nat} {ret : Option FieldType} (h : decode cc pc = .ok (.l2i, 1)) : QGood l P own cc nL ret pc (qi_l2i (pc + 1)) := by
  intro p e s m args below meth c R D ty tb base X G C d cells slots Q cx hC hroom Rt nx rt L S M r he hn hr H locs ls hR hL
  obtain ⟨hx, hb, hml, hown, hts, hSt⟩ := cx
  unfold qi_l2i at he
  split at he
  · exact lv_l2i hx hb h rfl (hn _ _ _ _ he H locs ls hR hL)
  · cases he
theorem qg_lcmp {l : Launch} {P : QP} {own : String} {cc : ByteArray} {nL pc : Nat} {ret : Option FieldType} (h : decode cc pc = .ok (.lcmp, 1)) : QGood l P own cc nL ret pc (qi_lcmp (pc + 1)) := by
  intro p e s m args below meth c R D ty tb base X G C d cells slots Q cx hC hroom Rt nx rt L S M r he hn hr H locs ls hR hL
  obtain ⟨hx, hb, hml, hown, hts, hSt⟩ := cx
  unfold qi_lcmp at he
  split at he
  · exact W.lcmp hx hb h (hn _ _ _ _ he H locs ls hR hL)
  · cases he
theorem qg_pop {l : Launch} {P : QP} {own : String} {cc : ByteArray} {nL pc : Nat} {ret : Option FieldType} (h : decode cc pc = .ok (.pop, 1)) : QGood l P own cc nL ret pc (qi_pop (pc + 1)) := by
  intro p e s m args below meth c R D ty tb base X G C d cells slots Q cx hC hroom Rt nx rt L S M r he hn hr H locs ls hR hL
  obtain ⟨hx, hb, hml, hown, hts, hSt⟩ := cx
  unfold qi_pop at he
  split at he
  · obtain ⟨h1, he⟩ := q_cond he
    exact lv_pop hx hb h (q_one_cat h1) (hn _ _ _ _ he H locs ls hR hL)
  · cases he
theorem qg_dup {l : Launch} {P : QP} {own : String} {cc : ByteArray} {nL pc : Nat} {ret : Option FieldType} (h : decode cc pc = .ok (.dup, 1)) : QGood l P own cc nL ret pc (qi_dup (pc + 1)) := by
  intro p e s m args below meth c R D ty tb base X G C d cells slots Q cx hC hroom Rt nx rt L S M r he hn hr H locs ls hR hL
  obtain ⟨hx, hb, hml, hown, hts, hSt⟩ := cx
  unfold qi_dup at he
  split at he
  · obtain ⟨h1, he⟩ := q_cond he
    exact lv_dup hx hb h (q_one_cat h1) (hn _ _ _ _ he H locs ls hR hL)
  · cases he
theorem qg_dupx1 {l : Launch} {P : QP} {own : String} {cc : ByteArray} {nL pc : Nat} {ret : Option FieldType} (h : decode cc pc = .ok (.dup_x1, 1)) : QGood l P own cc nL ret pc (qi_dupx1 (pc + 1)) := by
  intro p e s m args below meth c R D ty tb base X G C d cells slots Q cx hC hroom Rt nx rt L S M r he hn hr H locs ls hR hL
  obtain ⟨hx, hb, hml, hown, hts, hSt⟩ := cx
  unfold qi_dupx1 at he
  split at he
  · obtain ⟨h1, he⟩ := q_cond he
    rw [Bool.and_eq_true] at h1
    exact lv_dup_x1 hx hb h (q_one_cat h1.1) (q_one_cat h1.2) (hn _ _ _ _ he H locs ls hR hL)
  · cases he
theorem qg_dup2 {l : Launch} {P : QP} {own : String} {cc : ByteArray} {nL pc : Nat} {ret : Option FieldType} (h : decode cc pc = .ok (.dup2, 1)) : QGood l P own cc nL ret pc (qi_dup2 (pc + 1)) := by
  intro p e s m args below meth c R D ty tb base X G C d cells slots Q cx hC hroom Rt nx rt L S M r he hn hr H locs ls hR hL
  obtain ⟨hx, hb, hml, hown, hts, hSt⟩ := cx
  unfold qi_dup2 at he
  split at he
  · obtain ⟨h1, he⟩ := q_cond he
    rw [Bool.and_eq_true] at h1
    exact lv_dup2_11 hx hb h (q_one_cat h1.1) (q_one_cat h1.2) (hn _ _ _ _ he H locs ls hR hL)
  · cases he
theorem qg_goto {l : Launch} {P : QP} {own : String} {cc : ByteArray} {nL pc : Nat} {ret : Option FieldType} {off : Int} {tgt : Nat} (h : decode cc pc = .ok (.goto off, 3)) (ht : (pc : Int) + off = (tgt : Int)) : QGood l P own cc nL ret pc (qi_goto tgt) := by
  intro p e s m args below meth c R D ty tb base X G C d cells slots Q cx hC hroom Rt nx rt L S M r he hn hr H locs ls hR hL
  obtain ⟨hx, hb, hml, hown, hts, hSt⟩ := cx
  exact lv_goto hx hb h ht (hn _ _ _ _ he H locs ls hR hL)
theorem qg_icmp_eq {l : Launch} {P : QP} {own : String} {cc : ByteArray} {nL pc : Nat} {ret : Option FieldType} {off : Int} {tgt : Nat} (h : decode cc pc = .ok (.if_icmp .eq off, 3)) (ht : (pc : Int) + off = (tgt : Int)) : QGood l P own cc nL ret pc (qi_ifEq tgt (pc + 3)) := by
  intro p e s m args below meth c R D ty tb base X G C d cells slots Q cx hC hroom Rt nx rt L S M r he hn hr H locs ls hR hL
  obtain ⟨hx, hb, hml, hown, hts, hSt⟩ := cx
  unfold qi_ifEq at he
  split at he
  · refine lv_icmp_eq hx hb h ht (fun hc => ?_) (fun hc => ?_)
    · rw [if_pos hc] at he
      exact hn _ _ _ _ he H locs ls hR hL
    · rw [if_neg hc] at he
      exact hn _ _ _ _ he H locs ls hR hL
  · cases he
theorem qg_if_eq {l : Launch} {P : QP} {own : String} {cc : ByteArray} {nL pc : Nat} {ret : Option FieldType} {off : Int} {tgt : Nat} (h : decode cc pc = .ok (.ifCond .eq off, 3)) (ht : (pc : Int) + off = (tgt : Int)) : QGood l P own cc nL ret pc (qi_zEq tgt (pc + 3)) := by
  intro p e s m args below meth c R D ty tb base X G C d cells slots Q cx hC hroom Rt nx rt L S M r he hn hr H locs ls hR hL
  obtain ⟨hx, hb, hml, hown, hts, hSt⟩ := cx
  unfold qi_zEq at he
  split at he
  · refine lv_if_eq hx hb h ht (fun hc => ?_) (fun hc => ?_)
    · rw [if_pos hc] at he
      exact hn _ _ _ _ he H locs ls hR hL
    · rw [if_neg hc] at he
      exact hn _ _ _ _ he H locs ls hR hL
  · cases he
theorem qg_icmp_lt {l : Launch} {P : QP} {own : String} {cc : ByteArray} {nL pc : Nat} {ret : Option FieldType} {off : Int} {tgt : Nat} (h : decode cc pc = .ok (.if_icmp .lt off, 3)) (ht : (pc : Int) + off = (tgt : Int)) : QGood l P own cc nL ret pc (qi_ifLt tgt (pc + 3)) := by
  intro p e s m args below meth c R D ty tb base X G C d cells slots Q cx hC hroom Rt nx rt L S M r he hn hr H locs ls hR hL
  obtain ⟨hx, hb, hml, hown, hts, hSt⟩ := cx
  unfold qi_ifLt at he
  split at he
  · refine lv_icmp_lt hx hb h ht (fun hc => ?_) (fun hc => ?_)
    · rw [if_pos hc] at he
      exact hn _ _ _ _ he H locs ls hR hL
    · rw [if_neg hc] at he
      exact hn _ _ _ _ he H locs ls hR hL
  · cases he
theorem qg_if_lt {l : Launch} {P : QP} {own : String} {cc : ByteArray} {nL pc : Nat} {ret : Option FieldType} {off : Int} {tgt : Nat} (h : decode cc pc = .ok (.ifCond .lt off, 3)) (ht : (pc : Int) + off = (tgt : Int)) : QGood l P own cc nL ret pc (qi_zLt tgt (pc + 3)) := by
  intro p e s m args below meth c R D ty tb base X G C d cells slots Q cx hC hroom Rt nx rt L S M r he hn hr H locs ls hR hL
  obtain ⟨hx, hb, hml, hown, hts, hSt⟩ := cx
  unfold qi_zLt at he
  split at he
  · refine lv_if_lt hx hb h ht (fun hc => ?_) (fun hc => ?_)
    · rw [if_pos hc] at he
      exact hn _ _ _ _ he H locs ls hR hL
    · rw [if_neg hc] at he
      exact hn _ _ _ _ he H locs ls hR hL
  · cases he
theorem qg_icmp_ge {l : Launch} {P : QP} {own : String} {cc : ByteArray} {nL pc : Nat} {ret : Option FieldType} {off : Int} {tgt : Nat} (h : decode cc pc = .ok (.if_icmp .ge off, 3)) (ht : (pc : Int) + off = (tgt : Int)) : QGood l P own cc nL ret pc (qi_ifGe tgt (pc + 3)) := by
  intro p e s m args below meth c R D ty tb base X G C d cells slots Q cx hC hroom Rt nx rt L S M r he hn hr H locs ls hR hL
  obtain ⟨hx, hb, hml, hown, hts, hSt⟩ := cx
  unfold qi_ifGe at he
  split at he
  · refine lv_icmp_ge hx hb h ht (fun hc => ?_) (fun hc => ?_)
    · rw [if_pos hc] at he
      exact hn _ _ _ _ he H locs ls hR hL
    · rw [if_neg hc] at he
      exact hn _ _ _ _ he H locs ls hR hL
  · cases he
theorem qg_if_ge {l : Launch} {P : QP} {own : String} {cc : ByteArray} {nL pc : Nat} {ret : Option FieldType} {off : Int} {tgt : Nat} (h : decode cc pc = .ok (.ifCond .ge off, 3)) (ht : (pc : Int) + off = (tgt : Int)) : QGood l P own cc nL ret pc (qi_zGe tgt (pc + 3)) := by
  intro p e s m args below meth c R D ty tb base X G C d cells slots Q cx hC hroom Rt nx rt L S M r he hn hr H locs ls hR hL
  obtain ⟨hx, hb, hml, hown, hts, hSt⟩ := cx
  unfold qi_zGe at he
  split at he
  · refine lv_if_ge hx hb h ht (fun hc => ?_) (fun hc => ?_)
    · rw [if_pos hc] at he
      exact hn _ _ _ _ he H locs ls hR hL
    · rw [if_neg hc] at he
      exact hn _ _ _ _ he H locs ls hR hL
  · cases he
theorem qg_icmp_gt {l : Launch} {P : QP} {own : String} {cc : ByteArray} {nL pc : Nat} {ret : Option FieldType} {off : Int} {tgt : Nat} (h : decode cc pc = .ok (.if_icmp .gt off, 3)) (ht : (pc : Int) + off = (tgt : Int)) : QGood l P own cc nL ret pc (qi_ifGt tgt (pc + 3)) := by
  intro p e s m args below meth c R D ty tb base X G C d cells slots Q cx hC hroom Rt nx rt L S M r he hn hr H locs ls hR hL
  obtain ⟨hx, hb, hml, hown, hts, hSt⟩ := cx
  unfold qi_ifGt at he
  split at he
  · refine lv_icmp_gt hx hb h ht (fun hc => ?_) (fun hc => ?_)
    · rw [if_pos hc] at he
      exact hn _ _ _ _ he H locs ls hR hL
    · rw [if_neg hc] at he
      exact hn _ _ _ _ he H locs ls hR hL
  · cases he
theorem qg_if_gt {l : Launch} {P : QP} {own : String} {cc : ByteArray} {nL pc : Nat} {ret : Option FieldType} {off : Int} {tgt : Nat} (h : decode cc pc = .ok (.ifCond .gt off, 3)) (ht : (pc : Int) + off = (tgt : Int)) : QGood l P own cc nL ret pc (qi_zGt tgt (pc + 3)) := by
  intro p e s m args below meth c R D ty tb base X G C d cells slots Q cx hC hroom Rt nx rt L S M r he hn hr H locs ls hR hL
  obtain ⟨hx, hb, hml, hown, hts, hSt⟩ := cx
  unfold qi_zGt at he
  split at he
  · refine lv_if_gt hx hb h ht (fun hc => ?_) (fun hc => ?_)
    · rw [if_pos hc] at he
      exact hn _ _ _ _ he H locs ls hR hL
    · rw [if_neg hc] at he
      exact hn _ _ _ _ he H locs ls hR hL
  · cases he
theorem qg_icmp_le {l : Launch} {P : QP} {own : String} {cc : ByteArray} {nL pc : Nat} {ret : Option FieldType} {off : Int} {tgt : Nat} (h : decode cc pc = .ok (.if_icmp .le off, 3)) (ht : (pc : Int) + off = (tgt : Int)) : QGood l P own cc nL ret pc (qi_ifLe tgt (pc + 3)) := by
  intro p e s m args below meth c R D ty tb base X G C d cells slots Q cx hC hroom Rt nx rt L S M r he hn hr H locs ls hR hL
  obtain ⟨hx, hb, hml, hown, hts, hSt⟩ := cx
  unfold qi_ifLe at he
  split at he
  · refine lv_icmp_le hx hb h ht (fun hc => ?_) (fun hc => ?_)
    · rw [if_pos hc] at he
      exact hn _ _ _ _ he H locs ls hR hL
    · rw [if_neg hc] at he
      exact hn _ _ _ _ he H locs ls hR hL
  · cases he
theorem qg_if_le {l : Launch} {P : QP} {own : String} {cc : ByteArray} {nL pc : Nat} {ret : Option FieldType} {off : Int} {tgt : Nat} (h : decode cc pc = .ok (.ifCond .le off, 3)) (ht : (pc : Int) + off = (tgt : Int)) : QGood l P own cc nL ret pc (qi_zLe tgt (pc + 3)) := by
  intro p e s m args below meth c R D ty tb base X G C d cells slots Q cx hC hroom Rt nx rt L S M r he hn hr H locs ls hR hL
  obtain ⟨hx, hb, hml, hown, hts, hSt⟩ := cx
  unfold qi_zLe at he
  split at he
  · refine lv_if_le hx hb h ht (fun hc => ?_) (fun hc => ?_)
    · rw [if_pos hc] at he
      exact hn _ _ _ _ he H locs ls hR hL
    · rw [if_neg hc] at he
      exact hn _ _ _ _ he H locs ls hR hL
  · cases he
theorem qg_icmp_ne {l : Launch} {P : QP} {own : String} {cc : ByteArray} {nL pc : Nat} {ret : Option FieldType} {off : Int} {tgt : Nat} (h : decode cc pc = .ok (.if_icmp .ne off, 3)) (ht : (pc : Int) + off = (tgt : Int)) : QGood l P own cc nL ret pc (qi_ifEq (pc + 3) tgt) := by
  intro p e s m args below meth c R D ty tb base X G C d cells slots Q cx hC hroom Rt nx rt L S M r he hn hr H locs ls hR hL
  obtain ⟨hx, hb, hml, hown, hts, hSt⟩ := cx
  unfold qi_ifEq at he
  split at he
  · refine lv_icmp_ne hx hb h ht (fun hc => ?_) (fun hc => ?_)
    · rw [if_neg hc] at he
      exact hn _ _ _ _ he H locs ls hR hL
    · rw [if_pos hc] at he
      exact hn _ _ _ _ he H locs ls hR hL
  · cases he
theorem qg_if_ne {l : Launch} {P : QP} {own : String} {cc : ByteArray} {nL pc : Nat} {ret : Option FieldType} {off : Int} {tgt : Nat} (h : decode cc pc = .ok (.ifCond .ne off, 3)) (ht : (pc : Int) + off = (tgt : Int)) : QGood l P own cc nL ret pc (qi_zEq (pc + 3) tgt) := by
  intro p e s m args below meth c R D ty tb base X G C d cells slots Q cx hC hroom Rt nx rt L S M r he hn hr H locs ls hR hL
  obtain ⟨hx, hb, hml, hown, hts, hSt⟩ := cx
  unfold qi_zEq at he
  split at he
  · refine lv_if_ne hx hb h ht (fun hc => ?_) (fun hc => ?_)
    · rw [if_neg hc] at he
      exact hn _ _ _ _ he H locs ls hR hL
    · rw [if_pos hc] at he
      exact hn _ _ _ _ he H locs ls hR hL
  · cases he
theorem qg_ifnull {l : Launch} {P : QP} {own : String} {cc : ByteArray} {nL pc : Nat} {ret : Option FieldType} {off : Int} {tgt : Nat} (h : decode cc pc = .ok (.ifnull off, 3)) (ht : (pc : Int) + off = (tgt : Int)) : QGood l P own cc nL ret pc (qi_null tgt (pc + 3)) := by
  intro p e s m args below meth c R D ty tb base X G C d cells slots Q cx hC hroom Rt nx rt L S M r he hn hr H locs ls hR hL
  obtain ⟨hx, hb, hml, hown, hts, hSt⟩ := cx
  unfold qi_null at he
  split at he
  · exact lv_ifnull hx hb h (hn _ _ _ _ he H locs ls hR hL)
  · exact lv_ifnullN hx hb h ht (hn _ _ _ _ he H locs ls hR hL)
  · cases he
theorem qg_ifnonnull {l : Launch} {P : QP} {own : String} {cc : ByteArray} {nL pc : Nat} {ret : Option FieldType} {off : Int} {tgt : Nat} (h : decode cc pc = .ok (.ifnonnull off, 3)) (ht : (pc : Int) + off = (tgt : Int)) : QGood l P own cc nL ret pc (qi_null (pc + 3) tgt) := by
  intro p e s m args below meth c R D ty tb base X G C d cells slots Q cx hC hroom Rt nx rt L S M r he hn hr H locs ls hR hL
  obtain ⟨hx, hb, hml, hown, hts, hSt⟩ := cx
  unfold qi_null at he
  split at he
  · exact lv_ifnonnull hx hb h ht (hn _ _ _ _ he H locs ls hR hL)
  · exact lv_ifnonnullN hx hb h (hn _ _ _ _ he H locs ls hR hL)
  · cases he
